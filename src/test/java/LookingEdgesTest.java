/** Edges of promises 18 to 22: count, member, isGood, hamper, waiting. */
public final class LookingEdgesTest extends Edges {
    public static void main(String[] args) {
        runAll(LookingEdgesTest.class);
    }

    // ---- promise 18: count

    static void promise18Only0To15() {
        onlyFromTo("what", 0, 15, Edges::busy, HamperClub::count);
    }

    /** In the tin are the worth of 18 + 4 + 1 stamps and the pool of 7, which is 250 less 13 that were paid out. */
    static void promise18EachOfABusyClub() {
        int[] want = {3, 6, 0, 237, 7, 23, 250, 13, 0, 0, 1, 1, 0, 2, 5, 5};
        for (int number = 0; number <= 15; number++) {
            int what = number;
            leavesAll("count(" + what + ")", Edges::busy, club -> club.count(what), want[what]);
        }
    }

    static void promise18ThePresentWeekFrom0To60() {
        due("in week 0", new HamperClub().count(0), 0);
        due("in week 60", lastWeek().count(0), 60);
    }

    static void promise18MembersFrom0To12() {
        due("none", new HamperClub().count(1), 0);
        due("twelve", full().count(1), 12);
    }

    static void promise18SettledOrNot() {
        due("not", busy().count(2), 0);
        due("settled", settled().count(2), 1);
    }

    static void promise18TheTinIsAlwaysWhatCameInLessWhatWentOut() {
        for (HamperClub club : new HamperClub[] {new HamperClub(), busy(), full(), settled(), lastWeek()}) {
            due("tin", club.count(3), club.count(6) - club.count(7) - club.count(8));
        }
    }

    static void promise18TheGreatestTin() {
        HamperClub club = clubOf(2);
        for (int week = 0; week <= 60; week++) {
            club.stick(0, 5);
            club.stick(1, 5);
            club.week();
        }
        due("tin", club.count(3), 6100);
        due("stamps", club.count(5), 610);
        due("came in", club.count(6), 6100);
    }

    static void promise18HampersThatMembersGot() {
        HamperClub club = withStamps(clubOf(2), 1, 20);
        club.choose(0, 0);
        club.choose(1, 0);
        due("ahead of settling", club.count(9), 0);
        club.settle();
        due("then", club.count(9), 1);
        due("to the shop", club.count(8), 200);
        club.undo();
        due("undone", club.count(9), 0);
        due("to the shop, undone", club.count(8), 0);
    }

    static void promise18MislaidCardsFrom0To12() {
        HamperClub club = clubOf(12);
        for (int member = 0; member <= 11; member++) {
            due("mislaid cards", club.count(10), member);
            club.mislay(member);
        }
        due("all", club.count(10), 12);
        club.find(11);
        due("all but one", club.count(10), 11);
    }

    static void promise18MembersThatHaveDrawnFrom0To12() {
        HamperClub club = clubOf(12);
        for (int member = 0; member <= 11; member++) {
            due("have drawn", club.count(11), member);
            club.stick(member, 1);
            club.withdraw(member, 1);
        }
        due("all", club.count(11), 12);
    }

    static void promise18LapsesOfOneMemberAddUp() {
        HamperClub club = inWeek(5, 1);
        for (int lapses = 0; lapses <= 3; lapses++) {
            due("lapses", club.count(12), lapses);
            club.choose(0, 0);
            club.week();
        }
    }

    static void promise18SnapshotsFrom0To2() {
        HamperClub club = new HamperClub();
        due("none", club.count(13), 0);
        club.take(1);
        due("one", club.count(13), 1);
        club.take(1);
        due("still one", club.count(13), 1);
        club.take(0);
        due("two", club.count(13), 2);
    }

    static void promise18StatesFrom0To5() {
        HamperClub club = new HamperClub();
        for (int actions = 0; actions <= 7; actions++) {
            due("states", club.count(14), Math.min(actions, 5));
            club.week();
        }
    }

    static void promise18TheLengthOfTheTextFrom0To100() {
        HamperClub club = new HamperClub();
        for (int length = 0; length <= 100; length++) {
            due("length", club.count(15), length);
            club.append('w');
        }
        club.append('w');
        due("full", club.count(15), 100);
    }

    // ---- promise 19: member

    static void promise19OnlyMembers() {
        onlyMembers((club, member) -> club.member(member, 0));
    }

    static void promise19Only0To10() {
        onlyFromTo("what", 0, 10, Edges::busy, (club, what) -> club.member(0, what));
        leavesAll("what 11, settled", Edges::settled, club -> club.member(0, 11), INVALID);
    }

    static void promise19EachOfABusyClub() {
        int[][] want = {
            {18, 0, 3, 0, 2, 1, 4, 4, 3, 13, NONE},
            {4, 0, 3, 1, 0, 0, 1, 0, 0, 0, NONE},
            {1, 0, 3, 0, 1, 0, 1, 0, 1, 0, NONE},
            {0, 1, 1, 1, 0, 0, 0, 0, NONE, 0, NONE},
            {0, 0, 0, 1, 0, 0, 0, 0, NONE, 0, NONE},
            {0, 0, NONE, 0, 0, 0, 0, 0, NONE, 0, NONE},
        };
        HamperClub club = busy();
        for (int member = 0; member <= 5; member++) {
            for (int what = 0; what <= 10; what++) {
                due("member(" + member + ", " + what + ")", club.member(member, what), want[member][what]);
            }
        }
    }

    static void promise19LeavesAll() {
        int[] want = {0, 0, NONE, 0, 0, 0, 0, 0, NONE, 0, NONE};
        for (int number = 0; number <= 10; number++) {
            int what = number;
            leavesAll("member(5, " + what + ")", Edges::busy, club -> club.member(5, what), want[what]);
        }
    }

    static void promise19TheLastOfTwelve() {
        HamperClub club = clubOf(12);
        club.stick(11, 5);
        due("stamps", club.member(11, 0), 5);
        due("of member 12", club.member(12, 0), INVALID);
    }

    static void promise19TheThreeStatesOfACard() {
        HamperClub club = clubOf(1);
        due("in hand", club.member(0, 1), 0);
        club.mislay(0);
        due("mislaid", club.member(0, 1), 1);
        club.settle();
        due("closed", club.member(0, 1), 2);
    }

    static void promise19ChoiceOfKind0AndOfNone() {
        HamperClub club = clubOf(1);
        due("none", club.member(0, 2), NONE);
        due("none, so none is kept", club.member(0, 3), 0);
        due("none, so it stands in no row", club.member(0, 4), 0);
        club.choose(0, 0);
        due("kind 0", club.member(0, 2), 0);
        due("one is kept", club.member(0, 3), 1);
        due("it stands in no row", club.member(0, 4), 0);
    }

    static void promise19PlacesFrom1To12() {
        HamperClub club = clubOf(12);
        club.setHamper(1, 40, 0);
        for (int member = 11; member >= 0; member--) {
            club.choose(member, 1);
            due("place", club.member(member, 4), 12 - member);
            due("none is kept", club.member(member, 3), 0);
        }
    }

    static void promise19ARowOfGoodWeeksInWeek0() {
        HamperClub club = clubOf(1);
        due("not good", club.member(0, 7), 0);
        club.stick(0, 1);
        due("good", club.member(0, 7), 1);
    }

    static void promise19ARowThatEndsWithTheWeekBefore() {
        HamperClub club = clubOf(1);
        club.stick(0, 1);
        club.week();
        club.stick(0, 1);
        club.week();
        due("this week not yet", club.member(0, 7), 2);
        club.stick(0, 1);
        due("this week, too", club.member(0, 7), 3);
    }

    static void promise19ARowIsBrokenByTwoWeeks() {
        HamperClub club = clubOf(1);
        club.stick(0, 1);
        weeks(club, 2);
        due("neither this week nor the one before", club.member(0, 7), 0);
        club.stick(0, 1);
        due("this week alone", club.member(0, 7), 1);
        due("good weeks", club.member(0, 6), 2);
    }

    static void promise19ARowIsBrokenByOneWeekInItsMidst() {
        HamperClub club = clubOf(1);
        club.stick(0, 1);
        club.week();
        club.stick(0, 1);
        weeks(club, 2);
        club.stick(0, 1);
        club.week();
        due("one", club.member(0, 7), 1);
        club.stick(0, 1);
        due("two", club.member(0, 7), 2);
        due("good weeks", club.member(0, 6), 4);
    }

    static void promise19TheLongestRow() {
        HamperClub club = withStamps(clubOf(1), 0, 305);
        due("row", club.member(0, 7), 61);
        due("good weeks", club.member(0, 6), 61);
        due("latest", club.member(0, 8), 60);
    }

    static void promise19ARowThatEndsWithWeek59() {
        HamperClub club = withStamps(clubOf(1), 0, 300);
        club.week();
        due("present week", club.count(0), 60);
        due("row", club.member(0, 7), 60);
        due("latest", club.member(0, 8), 59);
    }

    static void promise19TheLatestGoodWeek() {
        HamperClub club = clubOf(1);
        due("none", club.member(0, 8), NONE);
        club.stick(0, 1);
        due("week 0", club.member(0, 8), 0);
        weeks(club, 2);
        due("still week 0", club.member(0, 8), 0);
        club.stick(0, 1);
        due("week 2", club.member(0, 8), 2);
    }

    static void promise19PencePaidByWithdrawalsAndBySettling() {
        HamperClub club = clubOf(1);
        club.stick(0, 5);
        due("nothing", club.member(0, 9), 0);
        club.withdraw(0, 1);
        due("a withdrawal", club.member(0, 9), 4);
        club.withdraw(0, 2);
        due("two withdrawals", club.member(0, 9), 17);
        club.settle();
        due("and the settling", club.member(0, 9), 37);
    }

    static void promise19TheHamperThatItGot() {
        HamperClub club = withStamps(clubOf(2), 0, 20);
        club.choose(0, 0);
        club.choose(1, 3);
        due("ahead of settling", club.member(0, 10), NONE);
        club.settle();
        due("kind 0", club.member(0, 10), 0);
        due("too few stamps", club.member(1, 10), NONE);
        club.undo();
        due("undone", club.member(0, 10), NONE);
    }

    // ---- promise 20: isGood

    static void promise20OnlyMembers() {
        onlyMembers((club, member) -> club.isGood(member, 0));
    }

    static void promise20OnlyWeeks0To60() {
        onlyFromTo("week", 0, 60, Edges::busy, (club, week) -> club.isGood(0, week));
        leavesAll("week 64", Edges::busy, club -> club.isGood(0, 64), INVALID);
        leavesAll("week 61, settled", Edges::settled, club -> club.isGood(0, 61), INVALID);
    }

    static void promise20TheFirstAndTheLastMember() {
        HamperClub club = clubOf(12);
        club.stick(11, 1);
        due("member 0", club.isGood(0, 0), 0);
        due("member 11", club.isGood(11, 0), 1);
    }

    /** Also those that are 32 weeks apart. */
    static void promise20EachWeekAlone() {
        for (int good = 0; good <= 60; good++) {
            HamperClub club = inWeek(good, 1);
            club.stick(0, 1);
            for (int week = 0; week <= 60; week++) {
                due("week " + week + " of week " + good, club.isGood(0, week), week == good ? 1 : 0);
            }
        }
    }

    static void promise20AWeekToCome() {
        HamperClub club = busy();
        due("the present week", club.isGood(0, 3), 1);
        due("the next week", club.isGood(0, 4), 0);
        due("week 60", club.isGood(0, 60), 0);
    }

    static void promise20StaysBehindWithdrawalAndSettling() {
        HamperClub club = clubOf(1);
        club.stick(0, 1);
        club.withdraw(0, 1);
        club.settle();
        due("week 0", club.isGood(0, 0), 1);
    }

    static void promise20LeavesAll() {
        leavesAll("isGood(0, 60)", Edges::busy, club -> club.isGood(0, 60), 0);
        leavesAll("isGood(0, 0)", Edges::busy, club -> club.isGood(0, 0), 1);
    }

    // ---- promise 21: hamper

    static void promise21OnlyKinds0To3() {
        onlyFromTo("kind", 0, 3, Edges::busy, (club, kind) -> club.hamper(kind, 2));
        leavesAll("kind NONE, the choice of members", Edges::busy, club -> club.hamper(NONE, 2), INVALID);
    }

    static void promise21Only0To3() {
        onlyFromTo("what", 0, 3, Edges::busy, (club, what) -> club.hamper(3, what));
        leavesAll("what 4, settled", Edges::settled, club -> club.hamper(3, 4), INVALID);
    }

    static void promise21EachOfABusyClub() {
        int[][] want = {{20, 1, 1, 0}, {40, 1, 1, 0}, {59, 3, 0, 0}, {100, 0, 1, 2}};
        for (int number = 0; number <= 3; number++) {
            for (int told = 0; told <= 3; told++) {
                int kind = number;
                int what = told;
                leavesAll("hamper(" + kind + ", " + what + ")", Edges::busy, club -> club.hamper(kind, what),
                    want[kind][what]);
            }
        }
    }

    static void promise21KeptFrom0To9AndRowFrom0To12() {
        HamperClub kept = clubOf(12);
        HamperClub waiting = clubOf(12);
        kept.setHamper(0, 20, 9);
        waiting.setHamper(0, 20, 0);
        for (int member = 0; member <= 11; member++) {
            due("kept", kept.hamper(0, 2), Math.min(member, 9));
            due("row behind 9", kept.hamper(0, 3), Math.max(member - 9, 0));
            due("none is kept", waiting.hamper(0, 2), 0);
            due("row", waiting.hamper(0, 3), member);
            kept.choose(member, 0);
            waiting.choose(member, 0);
        }
        due("row of all twelve", waiting.hamper(0, 3), 12);
    }

    static void promise21Settled() {
        HamperClub club = settled();
        due("price", club.hamper(2, 0), 59);
        due("stock with one given up", club.hamper(3, 1), 1);
        due("kept", club.hamper(3, 2), 0);
        due("row", club.hamper(3, 3), 0);
    }

    // ---- promise 22: waiting

    static void promise22OnlyKinds0To3() {
        onlyFromTo("kind", 0, 3, Edges::busy, (club, kind) -> club.waiting(kind, 0));
        leavesAll("kind NONE, the choice of members", Edges::busy, club -> club.waiting(NONE, 0), INVALID);
    }

    static void promise22OnlyPlacesFrom0On() {
        leavesAll("place -1", Edges::busy, club -> club.waiting(3, -1), INVALID);
        leavesAll("the least place", Edges::busy, club -> club.waiting(3, Integer.MIN_VALUE), INVALID);
        leavesAll("place -1 of an empty row", Edges::busy, club -> club.waiting(0, -1), INVALID);
        leavesAll("place -1, settled", Edges::settled, club -> club.waiting(3, -1), INVALID);
    }

    static void promise22TheLastThatWaitsAndTheOneBehind() {
        leavesAll("place 0 of 2", Edges::busy, club -> club.waiting(3, 0), 2);
        leavesAll("place 1 of 2", Edges::busy, club -> club.waiting(3, 1), 0);
        leavesAll("place 2 of 2", Edges::busy, club -> club.waiting(3, 2), NONE);
        leavesAll("the greatest place", Edges::busy, club -> club.waiting(3, Integer.MAX_VALUE), NONE);
    }

    static void promise22AnEmptyRow() {
        for (int kind = 0; kind <= 2; kind++) {
            due("place 0 of row " + kind, busy().waiting(kind, 0), NONE);
        }
        due("without members", new HamperClub().waiting(0, 0), NONE);
        due("settled", settled().waiting(3, 0), NONE);
    }

    static void promise22WhoHasOneKeptDoesNotWait() {
        HamperClub club = clubOf(1);
        club.choose(0, 0);
        due("place 0", club.waiting(0, 0), NONE);
    }

    static void promise22TheLongestRow() {
        HamperClub club = clubOf(12);
        club.setHamper(3, 100, 0);
        for (int member = 11; member >= 0; member--) {
            club.choose(member, 3);
        }
        for (int place = 0; place <= 11; place++) {
            due("place " + place, club.waiting(3, place), 11 - place);
        }
        due("place 12", club.waiting(3, 12), NONE);
    }
}
