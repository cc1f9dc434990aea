/** Promises 18 to 22: count, member, isGood, hamper, waiting. */
public final class LookingTest {
    private static final int[] FAR = {Integer.MIN_VALUE, -1000, Integer.MAX_VALUE};

    public static void main(String[] args) {
        count();
        member();
        rowOfGoodWeeks();
        isGood();
        hamper();
        waiting();
        Check.end();
    }

    private static HamperClub busyClub() {
        HamperClub club = Check.clubOf(4);
        Check.save(club, 0, 3);
        club.stick(1, 4);
        club.choose(1, 3);
        club.choose(2, 3);
        club.choose(0, 3);
        club.withdraw(0, 2);
        club.mislay(3);
        club.take(1);
        return club;
    }

    private static void count() {
        HamperClub club = busyClub();
        Check.write(club, "w;w");
        int[] due = {3, 4, 0, 177, 7, 17, 190, 13, 0, 0, 1, 1, 0, 1, 5, 3};
        for (int what = 0; what < due.length; what++) {
            Check.due("18: count(" + what + ")", club.count(what), due[what]);
        }
        Check.due("18: what -1", club.count(-1), Check.INVALID);
        Check.due("18: what 16", club.count(16), Check.INVALID);
        for (int what : FAR) {
            Check.due("18: what " + what, club.count(what), Check.INVALID);
        }
        club.giveUp(1);
        Check.weeks(club, 2);
        Check.due("18: lapses", club.count(12), 1);
        club.setHamper(3, 10, 0);
        club.choose(1, 1);
        Check.due("18: settled", club.settle(), 1);
        // 7 stamps are left on a card behind its hamper, and member 1 alone shares the pool of 7
        int[] settled = {5, 4, 1, 0, 0, 0, 190, 90, 100, 1, 0, 1, 1, 1, 5, 3};
        for (int what = 0; what < settled.length; what++) {
            Check.due("18: settled, count(" + what + ")", club.count(what), settled[what]);
        }
    }

    private static void member() {
        HamperClub club = busyClub();
        int[][] due = {
            {13, 0, 3, 0, 2, 1, 3, 3, 2, 13, Check.NONE},
            {4, 0, 3, 1, 0, 0, 1, 1, 3, 0, Check.NONE},
            {0, 0, 3, 0, 1, 0, 0, 0, Check.NONE, 0, Check.NONE},
            {0, 1, Check.NONE, 0, 0, 0, 0, 0, Check.NONE, 0, Check.NONE},
        };
        for (int member = 0; member < due.length; member++) {
            for (int what = 0; what < due[member].length; what++) {
                String call = "19: member(" + member + ", " + what + ")";
                Check.due(call, club.member(member, what), due[member][what]);
            }
        }
        Check.due("19: member -1", club.member(-1, 0), Check.INVALID);
        Check.due("19: member 4 of 4", club.member(4, 0), Check.INVALID);
        Check.due("19: what -1", club.member(0, -1), Check.INVALID);
        Check.due("19: what 11", club.member(0, 11), Check.INVALID);
        for (int far : FAR) {
            Check.due("19: member " + far, club.member(far, 0), Check.INVALID);
            Check.due("19: what " + far, club.member(0, far), Check.INVALID);
        }
        club.setHamper(3, 4, 1);
        club.settle();
        int[] got = {0, 2, Check.NONE, 0, 0, 0, 1, 1, 3, 7, 3};
        for (int what = 0; what < got.length; what++) {
            Check.due("19: settled, member(1, " + what + ")", club.member(1, what), got[what]);
        }
    }

    private static void rowOfGoodWeeks() {
        HamperClub club = Check.clubOf(1);
        Check.due("19: row in week 0, not good", club.member(0, 7), 0);
        club.stick(0, 1);
        Check.due("19: row in week 0, good", club.member(0, 7), 1);
        club.week();
        Check.due("19: row up to the week before", club.member(0, 7), 1);
        club.stick(0, 1);
        Check.due("19: row of 2", club.member(0, 7), 2);
        Check.weeks(club, 2);
        Check.due("19: row is broken", club.member(0, 7), 0);
        Check.due("19: good weeks stay", club.member(0, 6), 2);
        Check.due("19: latest", club.member(0, 8), 1);
        club.stick(0, 1);
        Check.due("19: a new row", club.member(0, 7), 1);
        Check.due("19: latest then", club.member(0, 8), 3);
        HamperClub all = Check.clubOf(1);
        Check.save(all, 0, 61);
        Check.due("19: a row of all 61 weeks", all.member(0, 7), 61);
        Check.due("19: 61 good weeks", all.member(0, 6), 61);
        Check.due("19: the latest is 60", all.member(0, 8), 60);
        Check.due("19: 305 stamps", all.member(0, 0), 305);
    }

    private static void isGood() {
        HamperClub club = Check.clubOf(2);
        club.stick(0, 1);
        Check.weeks(club, 33);
        club.stick(0, 1);
        Check.weeks(club, 27);
        club.stick(0, 1);
        for (int week = 0; week <= 60; week++) {
            boolean good = week == 0 || week == 33 || week == 60;
            Check.due("20: week " + week, club.isGood(0, week), good ? 1 : 0);
            Check.due("20: of the other", club.isGood(1, week), 0);
        }
        Check.due("20: week -1", club.isGood(0, -1), Check.INVALID);
        Check.due("20: week 61", club.isGood(0, 61), Check.INVALID);
        Check.due("20: week 64", club.isGood(0, 64), Check.INVALID);
        Check.due("20: member -1", club.isGood(-1, 0), Check.INVALID);
        Check.due("20: member 2 of 2", club.isGood(2, 0), Check.INVALID);
        for (int far : FAR) {
            Check.due("20: member " + far, club.isGood(far, 0), Check.INVALID);
            Check.due("20: week " + far, club.isGood(0, far), Check.INVALID);
        }
        HamperClub fresh = Check.clubOf(1);
        Check.due("20: a week to come", fresh.isGood(0, 60), 0);
    }

    private static void hamper() {
        HamperClub club = busyClub();
        int[] due = {100, 0, 1, 2};
        for (int what = 0; what < due.length; what++) {
            Check.due("21: hamper(3, " + what + ")", club.hamper(3, what), due[what]);
        }
        Check.due("21: kind -1", club.hamper(-1, 0), Check.INVALID);
        Check.due("21: kind 4", club.hamper(4, 0), Check.INVALID);
        Check.due("21: kind NONE", club.hamper(Check.NONE, 2), Check.INVALID);
        Check.due("21: what -1", club.hamper(0, -1), Check.INVALID);
        Check.due("21: what 4", club.hamper(0, 4), Check.INVALID);
        for (int far : FAR) {
            Check.due("21: kind " + far, club.hamper(far, 0), Check.INVALID);
            Check.due("21: what " + far, club.hamper(0, far), Check.INVALID);
        }
    }

    private static void waiting() {
        HamperClub club = busyClub();
        Check.due("22: the first", club.waiting(3, 0), 2);
        Check.due("22: the second", club.waiting(3, 1), 0);
        Check.due("22: not so many", club.waiting(3, 2), Check.NONE);
        Check.due("22: far behind", club.waiting(3, Integer.MAX_VALUE), Check.NONE);
        Check.due("22: an empty row", club.waiting(0, 0), Check.NONE);
        Check.due("22: kind -1", club.waiting(-1, 0), Check.INVALID);
        Check.due("22: kind 4", club.waiting(4, 0), Check.INVALID);
        Check.due("22: kind NONE", club.waiting(Check.NONE, 0), Check.INVALID);
        Check.due("22: place -1", club.waiting(3, -1), Check.INVALID);
        Check.due("22: place least", club.waiting(3, Integer.MIN_VALUE), Check.INVALID);
        HamperClub full = Check.clubOf(12);
        full.setHamper(2, 60, 0);
        for (int member = 11; member >= 0; member--) {
            full.choose(member, 2);
        }
        for (int place = 0; place < 12; place++) {
            Check.due("22: all wait, place " + place, full.waiting(2, place), 11 - place);
        }
        Check.due("22: no 13th", full.waiting(2, 12), Check.NONE);
    }
}
