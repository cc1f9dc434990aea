/** Promises 10 and 11: week and settle. */
public final class WeeksTest {
    public static void main(String[] args) {
        week();
        replacement();
        replacementOfTen();
        lapses();
        lapsingOneByOne();
        settleShares();
        settleHampers();
        settleAlongTheRow();
        settleEdges();
        settleUndone();
        Check.end();
    }

    private static void week() {
        HamperClub club = Check.clubOf(1);
        for (int week = 1; week <= 60; week++) {
            Check.due("10: week", club.week(), 0);
            Check.due("10: the present week", club.count(0), week);
        }
        Check.due("10: stick in the last week", club.stick(0, 1), 1);
        Check.due("10: good", club.isGood(0, 60), 1);
        Check.due("10: a week 61", club.week(), Check.FULL);
        club.undo();
        Check.due("10: is an action", club.undo(), 3);
        Check.due("10: undone", club.count(0), 59);
        club.week();
        club.settle();
        Check.due("10: settled ahead of full", club.week(), Check.ILLEGAL);
    }

    private static void replacement() {
        HamperClub club = Check.clubOf(3);
        Check.save(club, 0, 5);
        Check.save(club, 1, 1);
        club.stick(1, 4);
        club.mislay(0);
        club.mislay(1);
        Check.weeks(club, 1);
        club.mislay(2);
        Check.weeks(club, 1);
        Check.due("10: mislaid for 2 weeks", club.count(10), 3);
        int tin = club.count(3);
        club.week();
        Check.due("10: replaced", club.member(0, 1), 0);
        Check.due("10: a tenth of 25, rounded down", club.member(0, 0), 23);
        Check.due("10: a tenth of 9 is 0", club.member(1, 0), 9);
        Check.due("10: its worth is of the pool", club.count(4), 20);
        Check.due("10: it stays in the tin", club.count(3), tin);
        Check.due("10: that is not drawing", club.member(0, 5), 0);
        Check.due("10: paid to nobody", club.count(7), 0);
        Check.due("10: the one mislaid later is not replaced", club.member(2, 1), 1);
        club.mislay(0);
        club.week();
        Check.due("10: nothing on it", club.member(2, 1), 0);
        Check.weeks(club, 2);
        Check.due("10: replaced again", club.member(0, 0), 21);
        Check.due("10: the pool grows", club.count(4), 40);
    }

    private static void replacementOfTen() {
        HamperClub club = Check.clubOf(12);
        Check.save(club, 11, 2);
        club.mislay(11);
        Check.weeks(club, 3);
        Check.due("10: a tenth of 10", club.member(11, 0), 9);
        Check.due("10: of the pool", club.count(4), 10);
        club.choose(11, 0);
        Check.due("10: the last of 12 members lapses, too", club.week(), 1);
    }

    private static void lapses() {
        HamperClub club = Check.clubOf(3);
        club.choose(0, 0);
        club.choose(1, 1);
        Check.weeks(club, 4);
        Check.due("10: 4 weeks are not enough", club.count(12), 0);
        club.stick(0, 1);
        Check.due("10: 5 weeks behind its joining", club.week(), 1);
        Check.due("10: it has no choice", club.member(1, 2), Check.NONE);
        Check.due("10: the stock grows", club.hamper(1, 1), 2);
        Check.due("10: the saver keeps its choice", club.member(0, 3), 1);
        Check.due("10: lapses so far", club.count(12), 1);
        Check.weeks(club, 3);
        Check.due("10: 4 weeks behind its good week", club.member(0, 2), 0);
        Check.due("10: 5 weeks behind it", club.week(), 1);
        Check.due("10: lapses then", club.count(12), 2);
        Check.due("10: who has no choice does not lapse", club.week(), 0);
        club.choose(0, 0);
        Check.due("10: lapses a second time", club.week(), 1);
        Check.due("10: lapses counted", club.count(12), 3);
    }

    /** Who gives up hands on to the row at once, also to one that lapses later in the same week. */
    private static void lapsingOneByOne() {
        HamperClub club = Check.clubOf(4);
        club.choose(1, 2);
        club.choose(0, 2);
        club.choose(3, 2);
        club.choose(2, 2);
        Check.weeks(club, 4);
        club.stick(2, 1);
        Check.due("10: three lapse", club.week(), 3);
        Check.due("10: it comes to the saver", club.member(2, 3), 1);
        Check.due("10: the row is empty", club.hamper(2, 3), 0);
        Check.due("10: nothing for the stock", club.hamper(2, 1), 0);
    }

    private static void settleShares() {
        HamperClub club = Check.clubOf(4);
        Check.save(club, 0, 3);
        Check.save(club, 1, 2);
        Check.save(club, 2, 1);
        club.withdraw(2, 4);
        // the pool is 9 pence, the tin 15 + 10 + 1 stamps and the pool
        Check.due("11: tin ahead of it", club.count(3), 269);
        Check.due("11: no hampers", club.settle(), 0);
        Check.due("11: 150 and 9 * 15 / 25", club.member(0, 9), 155);
        Check.due("11: 100 and 9 * 10 / 25", club.member(1, 9), 103);
        Check.due("11: who has drawn gets no bonus", club.member(2, 9), 31 + 10);
        Check.due("11: who has no stamps neither", club.member(3, 9), 0);
        Check.due("11: what is left over stays", club.count(3), 1);
        Check.due("11: pool", club.count(4), 0);
        Check.due("11: stamps", club.count(5), 0);
        Check.due("11: came in", club.count(6), 300);
        Check.due("11: paid out", club.count(7), 299);
        Check.due("11: settled", club.count(2), 1);
        for (int member = 0; member < 4; member++) {
            Check.due("11: closed", club.member(member, 1), 2);
        }
        Check.due("11: once only", club.settle(), Check.ILLEGAL);
        Check.due("11: is an action", club.undo(), 4);
        Check.due("11: undone", club.count(2), 0);
        Check.due("11: undone, the pool", club.count(4), 9);
    }

    private static void settleHampers() {
        HamperClub club = Check.clubOf(4);
        Check.save(club, 0, 4);
        Check.save(club, 1, 4);
        Check.save(club, 3, 4);
        club.stick(1, 1);
        club.setHamper(0, 20, 2);
        club.setHamper(1, 21, 1);
        club.choose(3, 0);
        club.choose(0, 0);
        club.choose(1, 1);
        club.choose(2, 3);
        club.mislay(3);
        Check.due("11: three get one", club.settle(), 3);
        Check.due("11: hampers got", club.count(9), 3);
        Check.due("11: exactly the price is enough", club.member(0, 10), 0);
        Check.due("11: kind 1", club.member(1, 10), 1);
        Check.due("11: a mislaid card pays, too", club.member(3, 10), 0);
        Check.due("11: too few stamps", club.member(2, 10), Check.NONE);
        Check.due("11: that one goes to the stock", club.hamper(3, 1), 1);
        Check.due("11: to the shop", club.count(8), 610);
        Check.due("11: nothing is left to pay out", club.count(7), 0);
        Check.due("11: nothing in the tin", club.count(3), 0);
        Check.due("11: no mislaid cards", club.count(10), 0);
        for (int kind = 0; kind < 4; kind++) {
            Check.due("11: none kept", club.hamper(kind, 2), 0);
        }
        for (int member = 0; member < 4; member++) {
            Check.due("11: no choice", club.member(member, 2), Check.NONE);
            Check.due("11: none kept for it", club.member(member, 3), 0);
        }
    }

    private static void settleAlongTheRow() {
        HamperClub club = Check.clubOf(6);
        Check.save(club, 1, 2);
        Check.save(club, 4, 2);
        Check.save(club, 5, 2);
        club.setHamper(3, 10, 2);
        club.choose(3, 3);
        club.choose(0, 3);
        club.choose(2, 3);
        club.choose(5, 3);
        club.choose(1, 3);
        club.choose(4, 3);
        Check.due("11: both go along the row", club.settle(), 2);
        Check.due("11: past who has too few", club.member(2, 10), Check.NONE);
        Check.due("11: the first that can pay", club.member(5, 10), 3);
        Check.due("11: the second that can pay", club.member(1, 10), 3);
        Check.due("11: none left for the last", club.member(4, 10), Check.NONE);
        Check.due("11: who is paid for its stamps", club.member(4, 9), 100);
        Check.due("11: the row is left", club.hamper(3, 3), 0);
        Check.due("11: nobody waits", club.waiting(3, 0), Check.NONE);
        Check.due("11: its place", club.member(4, 4), 0);
        Check.due("11: its choice", club.member(4, 2), Check.NONE);
        Check.due("11: the stock", club.hamper(3, 1), 0);
    }

    private static void settleEdges() {
        HamperClub empty = new HamperClub();
        Check.due("11: without members", empty.settle(), 0);
        Check.due("11: settled", empty.count(2), 1);
        HamperClub drawn = Check.clubOf(1);
        drawn.stick(0, 5);
        drawn.withdraw(0, 5);
        Check.due("11: nobody shares the pool", drawn.settle(), 0);
        Check.due("11: it stays in the tin", drawn.count(3), 10);
        Check.due("11: and is a pool no more", drawn.count(4), 0);
        // a bonus is reckoned by the stamps ahead of the hampers, and does not pay for one
        HamperClub club = Check.clubOf(2);
        Check.save(club, 0, 4);
        Check.save(club, 1, 4);
        club.withdraw(1, 15);
        club.choose(0, 0);
        club.choose(1, 0);
        Check.due("11: one gets one", club.settle(), 1);
        Check.due("11: the bonus alone is paid out", club.member(0, 9), 20);
        Check.due("11: 15 stamps less the charge, and 5", club.member(1, 9), 130 + 50);
        HamperClub single = Check.clubOf(2);
        single.stick(0, 1);
        single.stick(1, 5);
        single.withdraw(1, 5);
        single.settle();
        Check.due("11: a single stamp shares", single.member(0, 9), 20);
        HamperClub full = Check.clubOf(12);
        Check.save(full, 11, 4);
        full.choose(11, 0);
        Check.due("11: the last of 12 members", full.settle(), 1);
        Check.due("11: its hamper", full.member(11, 10), 0);
        HamperClub longRow = Check.clubOf(12);
        Check.save(longRow, 0, 2);
        longRow.setHamper(3, 10, 1);
        for (int member = 11; member >= 0; member--) {
            longRow.choose(member, 3);
        }
        Check.due("11: through a row of 11", longRow.settle(), 1);
        Check.due("11: to its last", longRow.member(0, 10), 3);
    }

    private static void settleUndone() {
        HamperClub club = Check.clubOf(1);
        Check.save(club, 0, 4);
        club.choose(0, 0);
        Check.due("11: one", club.settle(), 1);
        Check.due("11: to the shop", club.count(8), 200);
        club.undo();
        Check.due("11: nothing went to the shop", club.count(8), 0);
        Check.due("11: no hamper was got", club.count(9), 0);
        Check.due("11: settled again", club.settle(), 1);
    }
}
