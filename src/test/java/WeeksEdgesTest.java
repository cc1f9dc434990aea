/** Edges of promise 10: week. */
public final class WeeksEdgesTest extends Edges {
    public static void main(String[] args) {
        runAll(WeeksEdgesTest.class);
    }

    // ---- the present week

    static void promise10From0ToWeek60() {
        HamperClub club = new HamperClub();
        due("at first", club.count(0), 0);
        for (int week = 1; week <= 60; week++) {
            due("week()", club.week(), 0);
            due("present week", club.count(0), week);
        }
        due("a week 61", club.week(), FULL);
    }

    static void promise10AWeek61IsRefused() {
        leavesAll("in week 60", Edges::lastWeek, HamperClub::week, FULL);
    }

    static void promise10FromWeek59ItPassesAgain() {
        HamperClub club = lastWeek();
        due("in week 60", club.week(), FULL);
        due("undo()", club.undo(), 4);
        due("in week 59", club.week(), 0);
        due("in week 60 again", club.week(), FULL);
    }

    static void promise10SettledIsRefused() {
        leavesAll("settled", Edges::settled, HamperClub::week, ILLEGAL);
    }

    static void promise10SettledIsAheadOfFull() {
        leavesAll("settled in week 60", () -> {
            HamperClub club = lastWeek();
            club.settle();
            return club;
        }, HamperClub::week, ILLEGAL);
    }

    static void promise10WithoutMembers() {
        HamperClub club = new HamperClub();
        due("week()", club.week(), 0);
        due("tin", club.count(3), 0);
        due("pool", club.count(4), 0);
    }

    static void promise10IsAnAction() {
        isAction(Edges::nearlyBusy, HamperClub::week, 0);
    }

    static void promise10ALapseIsUndone() {
        isAction(() -> {
            HamperClub club = clubOf(2);
            club.choose(1, 3);
            weeks(club, 5);
            club.undo();
            return club;
        }, HamperClub::week, 1);
    }

    static void promise10AReplacementIsUndone() {
        isAction(() -> {
            HamperClub club = mislaidWith(20);
            weeks(club, 3);
            club.undo();
            return club;
        }, HamperClub::week, 0);
    }

    // ---- cards are replaced

    private static HamperClub mislaidWith(int stamps) {
        HamperClub club = withStamps(clubOf(2), 1, stamps);
        club.mislay(1);
        return club;
    }

    static void promise10MislaidFor2WeeksIsNotReplaced() {
        HamperClub club = mislaidWith(10);
        weeks(club, 2);
        due("card", club.member(1, 1), 1);
        due("stamps", club.member(1, 0), 10);
        due("pool", club.count(4), 0);
    }

    static void promise10MislaidFor3WeeksIsReplaced() {
        HamperClub club = mislaidWith(10);
        weeks(club, 3);
        due("card", club.member(1, 1), 0);
        due("stamps", club.member(1, 0), 9);
        due("pool", club.count(4), 10);
        due("mislaid cards", club.count(10), 0);
    }

    static void promise10ReplacedOnceOnly() {
        HamperClub club = mislaidWith(20);
        weeks(club, 8);
        due("stamps", club.member(1, 0), 18);
        due("pool", club.count(4), 20);
    }

    static void promise10ATenthIsRoundedDown() {
        int[] stamps = {0, 1, 9, 10, 11, 19, 20, 29, 30, 99, 100, 101};
        int[] left = {0, 1, 9, 9, 10, 18, 18, 27, 27, 90, 90, 91};
        for (int index = 0; index < stamps.length; index++) {
            HamperClub club = mislaidWith(stamps[index]);
            int tin = club.count(3);
            weeks(club, 3);
            due("left of " + stamps[index], club.member(1, 0), left[index]);
            due("pool", club.count(4), 10 * (stamps[index] - left[index]));
            due("tin", club.count(3), tin);
            due("card", club.member(1, 1), 0);
        }
    }

    static void promise10TheGreatestCardThatIsReplaced() {
        HamperClub club = mislaidWith(290);
        due("present week", club.count(0), 57);
        weeks(club, 2);
        due("in week 59", club.member(1, 1), 1);
        club.week();
        due("in week 60", club.member(1, 1), 0);
        due("stamps", club.member(1, 0), 261);
        due("pool", club.count(4), 290);
    }

    static void promise10MislaidInWeek58IsNeverReplaced() {
        HamperClub club = inWeek(58, 1);
        club.mislay(0);
        weeks(club, 2);
        due("a week 61", club.week(), FULL);
        due("card", club.member(0, 1), 1);
    }

    static void promise10AReplacementIsNoDrawing() {
        HamperClub club = mislaidWith(10);
        weeks(club, 3);
        due("drawn", club.member(1, 5), 0);
        due("members that have drawn", club.count(11), 0);
        due("paid out", club.count(7), 0);
    }

    static void promise10AReplacementLeavesWhoHasDrawn() {
        HamperClub club = withStamps(clubOf(1), 0, 11);
        club.withdraw(0, 1);
        club.mislay(0);
        weeks(club, 3);
        due("drawn", club.member(0, 5), 1);
        due("stamps", club.member(0, 0), 9);
        due("pool", club.count(4), 16);
    }

    static void promise10EachCardByItsOwnWeek() {
        HamperClub club = clubOf(12);
        club.mislay(0);
        club.week();
        club.mislay(11);
        weeks(club, 2);
        due("member 0", club.member(0, 1), 0);
        due("member 11", club.member(11, 1), 1);
        club.week();
        due("member 11 a week later", club.member(11, 1), 0);
    }

    static void promise10AllTwelveCardsAreReplaced() {
        HamperClub club = clubOf(12);
        for (int member = 0; member <= 11; member++) {
            club.mislay(member);
        }
        weeks(club, 2);
        due("mislaid cards", club.count(10), 12);
        club.week();
        due("mislaid cards then", club.count(10), 0);
    }

    // ---- members lapse

    static void promise10FourWeeksBehindItsJoiningItStays() {
        HamperClub club = clubOf(1);
        club.choose(0, 3);
        for (int week = 1; week <= 4; week++) {
            due("week " + week, club.week(), 0);
        }
        due("choice", club.member(0, 2), 3);
        due("lapses", club.count(12), 0);
    }

    static void promise10FiveWeeksBehindItsJoiningItLapses() {
        HamperClub club = clubOf(1);
        club.choose(0, 3);
        weeks(club, 4);
        due("week 5", club.week(), 1);
        due("choice", club.member(0, 2), NONE);
        due("lapses", club.count(12), 1);
        due("stock", club.hamper(3, 1), 1);
    }

    static void promise10TheWeekOfALaterJoining() {
        HamperClub club = inWeek(3, 1);
        club.join();
        club.choose(1, 3);
        weeks(club, 4);
        due("in week 7", club.member(1, 2), 3);
        due("week 8", club.week(), 1);
    }

    static void promise10FourAndFiveWeeksBehindItsLatestGoodWeek() {
        HamperClub club = clubOf(1);
        club.choose(0, 3);
        club.stick(0, 1);
        weeks(club, 3);
        club.stick(0, 1);
        for (int week = 4; week <= 7; week++) {
            due("week " + week, club.week(), 0);
        }
        due("choice", club.member(0, 2), 3);
        due("week 8", club.week(), 1);
        due("choice then", club.member(0, 2), NONE);
    }

    static void promise10AGoodWeek0Counts() {
        HamperClub club = clubOf(1);
        club.stick(0, 1);
        club.choose(0, 3);
        weeks(club, 4);
        due("in week 4", club.member(0, 2), 3);
        due("week 5", club.week(), 1);
    }

    static void promise10WithoutAChoiceNobodyLapses() {
        HamperClub club = clubOf(2);
        for (int week = 1; week <= 10; week++) {
            due("week " + week, club.week(), 0);
        }
        due("lapses", club.count(12), 0);
    }

    static void promise10WhoChoosesTooLateLapsesWithTheNextWeek() {
        HamperClub club = inWeek(9, 1);
        due("choose", club.choose(0, 3), 0);
        due("the next week", club.week(), 1);
        due("choose again", club.choose(0, 3), 0);
        due("and the next", club.week(), 1);
        due("lapses", club.count(12), 2);
    }

    static void promise10WhoWaitsLapsesTooAndLeavesTheRow() {
        HamperClub club = clubOf(4);
        for (int member = 0; member <= 3; member++) {
            club.choose(member, 3);
        }
        weeks(club, 4);
        club.stick(0, 1);
        club.stick(1, 1);
        club.stick(3, 1);
        due("week 5", club.week(), 1);
        due("choice", club.member(2, 2), NONE);
        due("place", club.member(2, 4), 0);
        due("who stood behind moves up", club.member(3, 4), 2);
        due("stock", club.hamper(3, 1), 0);
    }

    static void promise10AKeptOneGoesToTheRow() {
        HamperClub club = clubOf(3);
        club.choose(2, 3);
        club.choose(0, 3);
        club.choose(1, 3);
        weeks(club, 4);
        club.stick(0, 1);
        club.stick(1, 1);
        due("week 5", club.week(), 1);
        due("kept for the first in the row", club.member(0, 3), 1);
        due("the second moves up", club.member(1, 4), 1);
        due("stock", club.hamper(3, 1), 0);
    }

    static void promise10AKeptOneGoesToWhoLapsesLaterAndOn() {
        HamperClub club = clubOf(3);
        club.choose(0, 3);
        club.choose(1, 3);
        club.choose(2, 3);
        weeks(club, 4);
        club.stick(2, 1);
        due("week 5", club.week(), 2);
        due("kept for the last", club.member(2, 3), 1);
        due("row", club.hamper(3, 3), 0);
    }

    static void promise10AllTwelveLapse() {
        HamperClub club = clubOf(12);
        for (int member = 0; member <= 11; member++) {
            club.choose(member, 3);
        }
        weeks(club, 4);
        due("week 5", club.week(), 12);
        due("lapses", club.count(12), 12);
        due("stock", club.hamper(3, 1), 1);
        due("row", club.hamper(3, 3), 0);
        due("kept", club.hamper(3, 2), 0);
    }

    static void promise10InTheLastWeekItLapsesToo() {
        HamperClub club = inWeek(55, 1);
        club.stick(0, 1);
        club.choose(0, 3);
        weeks(club, 4);
        due("in week 59", club.member(0, 2), 3);
        due("week 60", club.week(), 1);
    }

    static void promise10AMislaidCardDoesNotSaveFromLapsing() {
        HamperClub club = clubOf(1);
        club.choose(0, 3);
        weeks(club, 4);
        club.mislay(0);
        due("week 5", club.week(), 1);
        due("card", club.member(0, 1), 1);
    }
}
