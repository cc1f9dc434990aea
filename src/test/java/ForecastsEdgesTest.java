/** Edges of promises 23 to 25: would, bestKind, weeksFor. */
public final class ForecastsEdgesTest extends Edges {
    public static void main(String[] args) {
        runAll(ForecastsEdgesTest.class);
    }

    // ---- promise 23: would

    static void promise23OnlyMembers() {
        onlyMembers((club, member) -> club.would(member, 2));
    }

    static void promise23Only0To2() {
        onlyFromTo("what", 0, 2, Edges::busy, (club, what) -> club.would(1, what));
    }

    static void promise23SettledIsRefused() {
        for (int number = 0; number <= 2; number++) {
            int what = number;
            leavesAll("what " + what, Edges::settled, club -> club.would(1, what), ILLEGAL);
        }
    }

    static void promise23InvalidIsAheadOfSettled() {
        leavesAll("what 3", Edges::settled, club -> club.would(1, 3), INVALID);
        leavesAll("what -1", Edges::settled, club -> club.would(1, -1), INVALID);
    }

    /** The pool of 7 is shared by 4 stamps and 1: 5 and 1. */
    static void promise23EachOfABusyClub() {
        int[] bonus = {0, 5, 1, 0, 0, 0};
        int[] pence = {180, 45, 11, 0, 0, 0};
        for (int number = 0; number <= 5; number++) {
            int member = number;
            leavesAll("bonus of " + member, Edges::busy, club -> club.would(member, 0), bonus[member]);
            leavesAll("hamper of " + member, Edges::busy, club -> club.would(member, 1), NONE);
            leavesAll("pence of " + member, Edges::busy, club -> club.would(member, 2), pence[member]);
        }
    }

    static void promise23IsWhatSettlingGives() {
        HamperClub club = busy();
        int[] paid = new int[6];
        int[] pence = new int[6];
        for (int member = 0; member <= 5; member++) {
            paid[member] = club.member(member, 9);
            pence[member] = club.would(member, 2);
        }
        club.settle();
        for (int member = 0; member <= 5; member++) {
            due("pence of " + member, pence[member], club.member(member, 9) - paid[member]);
        }
    }

    static void promise23ABonusWithoutStampsOrPool() {
        HamperClub club = clubOf(2);
        due("no stamps at all", club.would(0, 0), 0);
        due("pence", club.would(0, 2), 0);
        club.stick(0, 1);
        due("no pool", club.would(0, 0), 0);
        club.withdraw(0, 1);
        due("a pool that nobody shares", club.would(0, 0), 0);
        club.stick(1, 1);
        due("all of the pool", club.would(1, 0), 6);
        due("who has drawn", club.would(0, 0), 0);
    }

    static void promise23TheHamperOfOneStampLessThePriceAndOneMore() {
        for (int stamps = 19; stamps <= 21; stamps++) {
            HamperClub club = withStamps(clubOf(1), 0, stamps);
            club.choose(0, 0);
            due("hamper with " + stamps, club.would(0, 1), stamps < 20 ? NONE : 0);
            due("pence with " + stamps, club.would(0, 2), stamps < 20 ? 190 : 10 * (stamps - 20));
        }
    }

    static void promise23WhoWaitsGetsWhatIsGivenUpInSettling() {
        HamperClub club = withStamps(clubOf(3), 0, 100);
        club.choose(1, 3);
        club.choose(0, 3);
        due("the one kept for cannot pay", club.would(0, 1), 3);
        club.setHamper(3, 1, 0);
        club.stick(1, 1);
        due("it can pay", club.would(0, 1), NONE);
        due("it gets it", club.would(1, 1), 3);
    }

    static void promise23AMislaidCard() {
        HamperClub club = withStamps(clubOf(1), 0, 25);
        club.choose(0, 0);
        club.mislay(0);
        due("hamper", club.would(0, 1), 0);
        due("pence", club.would(0, 2), 50);
    }

    static void promise23BehindUndoOfSettling() {
        HamperClub club = settled();
        club.undo();
        due("bonus", club.would(1, 0), 5);
        due("pence", club.would(0, 2), 180);
    }

    // ---- promise 24: bestKind

    static void promise24OnlyMembers() {
        onlyMembers(HamperClub::bestKind);
    }

    static void promise24SettledIsRefused() {
        leavesAll("settled", Edges::settled, club -> club.bestKind(0), ILLEGAL);
    }

    static void promise24NoneIsNoError() {
        leavesAll("18 stamps", Edges::busy, club -> club.bestKind(0), NONE);
        leavesAll("no stamps", Edges::busy, club -> club.bestKind(5), NONE);
    }

    static void promise24OneStampLessThePriceAndOneMore() {
        int[] stamps = {19, 20, 21, 39, 40, 41, 59, 60, 61, 99, 100, 101};
        int[] want = {NONE, 0, 0, 0, 1, 1, 1, 2, 2, 2, 3, 3};
        for (int index = 0; index < stamps.length; index++) {
            HamperClub club = withStamps(clubOf(1), 0, stamps[index]);
            due("with " + stamps[index], club.bestKind(0), want[index]);
        }
    }

    static void promise24OfTheSamePriceTheSmallest() {
        HamperClub club = withStamps(clubOf(1), 0, 20);
        for (int kind = 0; kind <= 3; kind++) {
            club.setHamper(kind, 20, 1);
        }
        due("all four", club.bestKind(0), 0);
        club.setHamper(0, 19, 1);
        due("from kind 1 on", club.bestKind(0), 1);
        club.setHamper(1, 19, 1);
        due("from kind 2 on", club.bestKind(0), 2);
        club.setHamper(2, 19, 1);
        due("kind 3 alone", club.bestKind(0), 3);
        club.setHamper(3, 19, 1);
        due("all four by one less", club.bestKind(0), 0);
    }

    static void promise24TheGreatestPriceIsNotThatOfTheGreatestKind() {
        HamperClub club = withStamps(clubOf(1), 0, 20);
        club.setHamper(0, 3, 1);
        club.setHamper(1, 5, 1);
        club.setHamper(2, 4, 1);
        club.setHamper(3, 2, 1);
        due("bestKind(0)", club.bestKind(0), 1);
    }

    static void promise24WithoutAStockItWouldWait() {
        HamperClub club = withStamps(clubOf(1), 0, 100);
        club.setHamper(3, 100, 0);
        due("kind 3 has none", club.bestKind(0), 2);
        club.setHamper(2, 60, 0);
        club.setHamper(1, 40, 0);
        club.setHamper(0, 20, 0);
        due("none has one", club.bestKind(0), NONE);
        club.setHamper(3, 100, 1);
        due("kind 3 has one", club.bestKind(0), 3);
    }

    static void promise24TheChoiceThatItHasIsTriedToo() {
        HamperClub kept = withStamps(clubOf(1), 0, 100);
        kept.choose(0, 3);
        due("one is kept", kept.bestKind(0), 3);
        HamperClub waiting = withStamps(clubOf(2), 0, 100);
        waiting.setHamper(3, 100, 0);
        waiting.choose(0, 3);
        due("it waits in vain", waiting.bestKind(0), 2);
        HamperClub next = withStamps(clubOf(2), 0, 100);
        next.choose(1, 3);
        next.choose(0, 3);
        due("it waits for one that cannot pay", next.bestKind(0), 3);
    }

    static void promise24ItsPlaceInTheRowCounts() {
        HamperClub club = withStamps(clubOf(3), 0, 20);
        withStamps(club, 2, 20);
        club.setHamper(3, 20, 1);
        club.setHamper(0, 1, 1);
        club.choose(1, 3);
        club.choose(2, 3);
        due("it would wait behind one that can pay", club.bestKind(0), 0);
        due("the one ahead of it", club.bestKind(2), 3);
    }

    static void promise24TheChoiceThatItHasStays() {
        HamperClub club = withStamps(clubOf(1), 0, 60);
        club.choose(0, 0);
        due("another kind than its choice", club.bestKind(0), 2);
        due("its choice stays", club.member(0, 2), 0);
        due("one is kept for it", club.member(0, 3), 1);
    }

    static void promise24AMislaidCard() {
        HamperClub club = withStamps(clubOf(1), 0, 20);
        club.mislay(0);
        due("bestKind(0)", club.bestKind(0), 0);
    }

    static void promise24LeavesAll() {
        leavesAll("bestKind(0)", () -> {
            HamperClub club = withStamps(clubOf(3), 0, 100);
            club.take(0);
            club.take(1);
            club.choose(0, 1);
            club.choose(1, 3);
            club.choose(2, 3);
            return club;
        }, club -> club.bestKind(0), 3);
    }

    // ---- promise 25: weeksFor

    static void promise25OnlyMembers() {
        onlyMembers((club, member) -> club.weeksFor(member, 0, 1));
    }

    static void promise25OnlyKinds0To3() {
        onlyFromTo("kind", 0, 3, Edges::busy, (club, kind) -> club.weeksFor(1, kind, 1));
    }

    static void promise25Only1To5Stamps() {
        onlyFromTo("stamps", 1, 5, Edges::busy, (club, stamps) -> club.weeksFor(1, 0, stamps));
    }

    static void promise25AMislaidCardIsRefused() {
        leavesAll("mislaid", Edges::busy, club -> club.weeksFor(3, 0, 1), ILLEGAL);
    }

    static void promise25AMislaidCardWithStampsEnoughIsRefused() {
        HamperClub club = withStamps(clubOf(1), 0, 20);
        due("in hand", club.weeksFor(0, 0, 1), 0);
        club.mislay(0);
        due("mislaid", club.weeksFor(0, 0, 1), ILLEGAL);
        club.find(0);
        due("found", club.weeksFor(0, 0, 1), 0);
    }

    static void promise25AClosedCardIsRefused() {
        leavesAll("settled", Edges::settled, club -> club.weeksFor(0, 0, 1), ILLEGAL);
    }

    static void promise25InvalidIsAheadOfIllegal() {
        leavesAll("mislaid, kind 4", Edges::busy, club -> club.weeksFor(3, 4, 1), INVALID);
        leavesAll("mislaid, 6 stamps", Edges::busy, club -> club.weeksFor(3, 0, 6), INVALID);
        leavesAll("settled, no stamps", Edges::settled, club -> club.weeksFor(0, 0, 0), INVALID);
    }

    static void promise25EnoughNow() {
        HamperClub club = withStamps(clubOf(1), 0, 20);
        due("just the price", club.weeksFor(0, 0, 1), 0);
        club.setHamper(0, 19, 1);
        due("one more than the price", club.weeksFor(0, 0, 1), 0);
        club.setHamper(0, 21, 1);
        due("one less than the price", club.weeksFor(0, 0, 5), 1);
    }

    static void promise25EnoughWithThoseOfThisWeek() {
        HamperClub club = clubOf(1);
        club.setHamper(0, 5, 1);
        due("just the price", club.weeksFor(0, 0, 5), 0);
        club.setHamper(0, 4, 1);
        due("one more than the price", club.weeksFor(0, 0, 5), 0);
        club.setHamper(0, 6, 1);
        due("one less than the price", club.weeksFor(0, 0, 5), 1);
    }

    static void promise25ThisWeekItHasStuckAlready() {
        HamperClub club = clubOf(1);
        club.setHamper(0, 6, 1);
        club.stick(0, 1);
        due("5 are missing, 5 a week", club.weeksFor(0, 0, 5), 1);
        due("5 are missing, 4 a week", club.weeksFor(0, 0, 4), 2);
        club.week();
        due("the next week, 5 a week", club.weeksFor(0, 0, 5), 0);
        due("the next week, 4 a week", club.weeksFor(0, 0, 4), 1);
    }

    static void promise25StuckAndWithdrawnInThisWeek() {
        HamperClub club = clubOf(1);
        club.setHamper(0, 5, 1);
        club.stick(0, 5);
        due("enough", club.weeksFor(0, 0, 5), 0);
        club.withdraw(0, 5);
        due("it cannot stick again in this week", club.weeksFor(0, 0, 5), 1);
    }

    static void promise25TheMostAndTheLeastWeeks() {
        HamperClub club = clubOf(1);
        club.setHamper(3, 200, 0);
        due("1 a week, with this one", club.weeksFor(0, 3, 1), 199);
        due("5 a week, with this one", club.weeksFor(0, 3, 5), 39);
        club.stick(0, 1);
        due("1 a week, without this one", club.weeksFor(0, 3, 1), 199);
        due("5 a week, without this one", club.weeksFor(0, 3, 5), 40);
        club.setHamper(3, 1, 0);
        due("a price of 1", club.weeksFor(0, 3, 1), 0);
    }

    static void promise25AnswersAsStickingWouldGo() {
        for (int stamps = 1; stamps <= 5; stamps++) {
            for (int price = 1; price <= 16; price++) {
                HamperClub club = clubOf(1);
                club.setHamper(1, price, 0);
                int weeks = club.weeksFor(0, 1, stamps);
                int passed = 0;
                club.stick(0, stamps);
                while (club.member(0, 0) < price) {
                    club.week();
                    club.stick(0, stamps);
                    passed++;
                }
                due("price " + price + ", " + stamps + " a week", weeks, passed);
            }
        }
    }

    static void promise25InWeek60() {
        HamperClub club = inWeek(60, 1);
        due("20 by 5, this week too", club.weeksFor(0, 0, 5), 3);
        club.stick(0, 5);
        due("15 by 5", club.weeksFor(0, 0, 5), 3);
    }

    static void promise25StockAndChoiceDoNotMatter() {
        HamperClub club = withStamps(clubOf(1), 0, 20);
        club.setHamper(0, 20, 0);
        due("without a stock", club.weeksFor(0, 0, 1), 0);
        club.choose(0, 3);
        due("with another choice", club.weeksFor(0, 0, 1), 0);
    }

    static void promise25LeavesAll() {
        leavesAll("weeksFor(1, 0, 5)", Edges::busy, club -> club.weeksFor(1, 0, 5), 3);
    }
}
