/** Edges of promise 11: settle. */
public final class SettlingEdgesTest extends Edges {
    public static void main(String[] args) {
        runAll(SettlingEdgesTest.class);
    }

    // ---- once, and nothing behind it

    static void promise11TwiceIsRefused() {
        leavesAll("twice", Edges::settled, HamperClub::settle, ILLEGAL);
    }

    static void promise11WithoutMembers() {
        HamperClub club = new HamperClub();
        due("settle()", club.settle(), 0);
        due("settled", club.count(2), 1);
        due("tin", club.count(3), 0);
        due("twice", club.settle(), ILLEGAL);
    }

    static void promise11InWeek0AndInWeek60() {
        due("in week 0", clubOf(1).settle(), 0);
        due("in week 60", lastWeek().settle(), 0);
    }

    static void promise11AllCardsAreClosedAndEmpty() {
        HamperClub club = settled();
        for (int member = 0; member <= 5; member++) {
            due("card of " + member, club.member(member, 1), 2);
            due("stamps of " + member, club.member(member, 0), 0);
            due("choice of " + member, club.member(member, 2), NONE);
            due("kept for " + member, club.member(member, 3), 0);
            due("place of " + member, club.member(member, 4), 0);
        }
        due("pool", club.count(4), 0);
        due("stamps", club.count(5), 0);
        due("mislaid cards", club.count(10), 0);
        for (int kind = 0; kind <= 3; kind++) {
            due("kept of " + kind, club.hamper(kind, 2), 0);
            due("row of " + kind, club.hamper(kind, 3), 0);
            due("first in row " + kind, club.waiting(kind, 0), NONE);
        }
    }

    static void promise11WhoWaitsInVainHasNoChoiceBehindIt() {
        HamperClub club = clubOf(3);
        club.setHamper(3, 1, 1);
        club.stick(2, 1);
        club.choose(2, 3);
        club.choose(1, 3);
        club.choose(0, 3);
        due("settle()", club.settle(), 1);
        for (int member = 0; member <= 2; member++) {
            due("choice of " + member, club.member(member, 2), NONE);
            due("kept for " + member, club.member(member, 3), 0);
            due("place of " + member, club.member(member, 4), 0);
        }
        due("row", club.hamper(3, 3), 0);
        due("first in it", club.waiting(3, 0), NONE);
    }

    static void promise11UndoRestoreAndTakeArePossibleBehindIt() {
        due("undo()", settled().undo(), 4);
        due("restore(0)", settled().restore(0), 1);
        due("restore(1)", settled().restore(1), 3);
        due("take(0)", settled().take(0), 3);
        due("take(1)", settled().take(1), 3);
    }

    static void promise11UndoneItIsPossibleAgain() {
        HamperClub club = settled();
        club.undo();
        due("settled", club.count(2), 0);
        due("again", club.settle(), 0);
        due("twice", club.settle(), ILLEGAL);
    }

    static void promise11IsAnAction() {
        isAction(Edges::nearlyBusy, HamperClub::settle, 0);
        isAction(() -> {
            HamperClub club = withStamps(clubOf(3), 2, 21);
            club.choose(2, 0);
            club.choose(1, 3);
            club.choose(0, 3);
            club.undo();
            return club;
        }, HamperClub::settle, 1);
    }

    // ---- the pool

    /** Has a pool of 10 pence, from a member that has drawn all its stamps. */
    private static HamperClub withPoolOf10(int members) {
        HamperClub club = clubOf(members);
        club.stick(0, 5);
        club.withdraw(0, 5);
        return club;
    }

    static void promise11AnEmptyPool() {
        HamperClub club = clubOf(2);
        club.stick(0, 5);
        club.stick(1, 1);
        club.settle();
        due("paid to 0", club.member(0, 9), 50);
        due("paid to 1", club.member(1, 9), 10);
        due("tin", club.count(3), 0);
    }

    static void promise11OneStampSharesAndNoneDoesNot() {
        HamperClub club = withPoolOf10(3);
        club.stick(1, 1);
        club.settle();
        due("paid to the one with 1 stamp", club.member(1, 9), 20);
        due("paid to the one without", club.member(2, 9), 0);
        due("tin", club.count(3), 0);
    }

    static void promise11WhoHasDrawnDoesNotShareWithStampsToo() {
        HamperClub club = withPoolOf10(2);
        club.week();
        club.stick(0, 5);
        club.stick(1, 1);
        club.settle();
        due("paid to the one that has drawn", club.member(0, 9), 40 + 50);
        due("paid to the other", club.member(1, 9), 10 + 10);
    }

    static void promise11NobodySharesWithoutStamps() {
        HamperClub club = withPoolOf10(2);
        due("settle()", club.settle(), 0);
        due("tin", club.count(3), 10);
        due("pool", club.count(4), 0);
        due("paid out", club.count(7), 40);
    }

    static void promise11NobodySharesIfAllHaveDrawn() {
        HamperClub club = clubOf(1);
        club.stick(0, 5);
        club.withdraw(0, 1);
        due("settle()", club.settle(), 0);
        due("tin", club.count(3), 6);
        due("pool", club.count(4), 0);
        due("paid to it", club.member(0, 9), 44);
    }

    static void promise11AShareIsRoundedDownAndTheRestStays() {
        HamperClub club = withPoolOf10(4);
        for (int member = 1; member <= 3; member++) {
            club.stick(member, 1);
        }
        club.settle();
        for (int member = 1; member <= 3; member++) {
            due("paid to " + member, club.member(member, 9), 13);
        }
        due("tin", club.count(3), 1);
        due("pool", club.count(4), 0);
    }

    static void promise11AShareWithoutARestLeavesNothing() {
        HamperClub club = withPoolOf10(3);
        club.stick(1, 4);
        club.stick(2, 1);
        club.settle();
        due("paid to 1, with 8 of 10", club.member(1, 9), 48);
        due("paid to 2, with 2 of 10", club.member(2, 9), 12);
        due("tin", club.count(3), 0);
    }

    static void promise11AShareOfLessThanAPennyIsNone() {
        HamperClub club = withStamps(clubOf(3), 1, 10);
        club.stick(0, 1);
        club.withdraw(0, 1);
        club.stick(2, 1);
        club.settle();
        due("6 * 10 / 11", club.member(1, 9), 105);
        due("6 * 1 / 11", club.member(2, 9), 10);
        due("tin", club.count(3), 1);
    }

    static void promise11TheFirstAndTheLastOfTwelveShare() {
        HamperClub club = clubOf(12);
        club.stick(5, 5);
        club.withdraw(5, 5);
        club.stick(0, 3);
        club.stick(11, 2);
        club.settle();
        due("10 * 3 / 5", club.member(0, 9), 36);
        due("10 * 2 / 5", club.member(11, 9), 24);
        due("tin", club.count(3), 0);
    }

    static void promise11AMislaidCardShares() {
        HamperClub club = withPoolOf10(2);
        club.stick(1, 1);
        club.mislay(1);
        club.settle();
        due("paid to it", club.member(1, 9), 20);
    }

    static void promise11TheGreatestPool() {
        HamperClub club = clubOf(2);
        for (int week = 0; week <= 60; week++) {
            club.stick(0, 5);
            club.stick(1, 5);
            club.week();
        }
        club.withdraw(0, 305);
        club.settle();
        due("3050 and 310", club.member(1, 9), 3360);
        due("tin", club.count(3), 0);
    }

    static void promise11SharesAreByTheStampsAheadOfTheHampers() {
        HamperClub club = withStamps(clubOf(3), 2, 20);
        club.stick(0, 5);
        club.withdraw(0, 5);
        club.choose(2, 0);
        due("settle()", club.settle(), 1);
        due("all stamps went, the pool is its bonus", club.member(2, 9), 10);
        due("to the shop", club.count(8), 200);
    }

    // ---- the hampers

    private static HamperClub keptFor(int stamps, int price) {
        HamperClub club = withStamps(clubOf(1), 0, stamps);
        club.setHamper(2, price, 1);
        club.choose(0, 2);
        return club;
    }

    static void promise11OneStampLessThanThePriceIsNotEnough() {
        HamperClub club = keptFor(19, 20);
        due("settle()", club.settle(), 0);
        due("its hamper", club.member(0, 10), NONE);
        due("paid to it", club.member(0, 9), 190);
        due("to the shop", club.count(8), 0);
        due("stock", club.hamper(2, 1), 1);
    }

    static void promise11JustThePriceIsEnough() {
        HamperClub club = keptFor(20, 20);
        due("settle()", club.settle(), 1);
        due("its hamper", club.member(0, 10), 2);
        due("paid to it", club.member(0, 9), 0);
        due("to the shop", club.count(8), 200);
        due("stock", club.hamper(2, 1), 0);
        due("hampers that members got", club.count(9), 1);
    }

    static void promise11OneStampMoreThanThePriceIsPaidOut() {
        HamperClub club = keptFor(21, 20);
        due("settle()", club.settle(), 1);
        due("paid to it", club.member(0, 9), 10);
        due("to the shop", club.count(8), 200);
        due("tin", club.count(3), 0);
    }

    static void promise11TheLeastPrice() {
        due("without stamps", keptFor(0, 1).settle(), 0);
        due("with 1 stamp", keptFor(1, 1).settle(), 1);
    }

    static void promise11TheGreatestPrice() {
        due("with 199 stamps", keptFor(199, 200).settle(), 0);
        due("with 200 stamps", keptFor(200, 200).settle(), 1);
    }

    static void promise11ABonusDoesNotPayForAHamper() {
        HamperClub club = withStamps(clubOf(2), 1, 19);
        club.stick(0, 5);
        club.withdraw(0, 5);
        club.choose(1, 0);
        due("settle()", club.settle(), 0);
        due("19 stamps and a bonus", club.member(1, 9), 200);
    }

    static void promise11AMislaidCardPaysToo() {
        HamperClub club = keptFor(20, 20);
        club.mislay(0);
        due("settle()", club.settle(), 1);
        due("its hamper", club.member(0, 10), 2);
    }

    static void promise11WhoHasDrawnGetsOneToo() {
        HamperClub club = keptFor(20, 19);
        club.withdraw(0, 1);
        due("settle()", club.settle(), 1);
    }

    static void promise11WhoWaitsGetsNoneIfTheKeptOneIsGot() {
        HamperClub club = withStamps(clubOf(2), 0, 20);
        withStamps(club, 1, 20);
        club.setHamper(2, 20, 1);
        club.choose(1, 2);
        club.choose(0, 2);
        due("settle()", club.settle(), 1);
        due("of the one that waited", club.member(0, 10), NONE);
        due("of the other", club.member(1, 10), 2);
        due("paid to the one that waited", club.member(0, 9), 200);
    }

    static void promise11WhoWaitsGetsNoneOfAStock() {
        HamperClub club = withStamps(clubOf(1), 0, 20);
        club.setHamper(2, 20, 0);
        club.choose(0, 2);
        club.setHamper(2, 20, 9);
        due("settle()", club.settle(), 0);
        due("stock", club.hamper(2, 1), 9);
    }

    static void promise11TheFirstInTheRowIsNextAtOnceAlsoWithASmallerNumber() {
        HamperClub club = withStamps(clubOf(3), 0, 20);
        club.setHamper(2, 20, 1);
        club.choose(2, 2);
        club.choose(0, 2);
        club.choose(1, 2);
        due("settle()", club.settle(), 1);
        due("its hamper", club.member(0, 10), 2);
        due("stock", club.hamper(2, 1), 0);
    }

    static void promise11ThroughTheLongestRowToItsLast() {
        HamperClub club = withStamps(clubOf(12), 5, 20);
        club.setHamper(2, 20, 1);
        for (int member = 11; member >= 0; member--) {
            if (member != 5) {
                club.choose(member, 2);
            }
        }
        due("the last place", club.choose(5, 2), 11);
        due("settle()", club.settle(), 1);
        due("its hamper", club.member(5, 10), 2);
        due("stock", club.hamper(2, 1), 0);
    }

    static void promise11ThroughARowOfNobodyThatCanPayToTheStock() {
        HamperClub club = clubOf(12);
        for (int member = 0; member <= 11; member++) {
            club.choose(member, 3);
        }
        due("settle()", club.settle(), 0);
        due("stock", club.hamper(3, 1), 1);
        due("hampers that members got", club.count(9), 0);
    }

    static void promise11TwoKeptOnesGoToTheFirstTwoThatCanPay() {
        HamperClub club = withStamps(clubOf(6), 4, 10);
        withStamps(club, 1, 10);
        withStamps(club, 5, 10);
        club.setHamper(3, 10, 2);
        for (int member : new int[] {0, 2, 3, 4, 1, 5}) {
            club.choose(member, 3);
        }
        due("settle()", club.settle(), 2);
        due("the first that can pay", club.member(4, 10), 3);
        due("the second that can pay", club.member(1, 10), 3);
        due("none is left for the third", club.member(5, 10), NONE);
        due("stock", club.hamper(3, 1), 0);
    }

    static void promise11MoreKeptOnesThanCanPay() {
        HamperClub club = withStamps(clubOf(3), 2, 10);
        club.setHamper(3, 10, 2);
        for (int member = 0; member <= 2; member++) {
            club.choose(member, 3);
        }
        due("settle()", club.settle(), 1);
        due("who waited gets one", club.member(2, 10), 3);
        due("the other goes to the stock", club.hamper(3, 1), 1);
    }

    static void promise11AllTwelveGetOne() {
        HamperClub club = clubOf(12);
        club.setHamper(0, 1, 9);
        club.setHamper(3, 1, 9);
        for (int member = 0; member <= 11; member++) {
            club.stick(member, 1);
            club.choose(member, member < 6 ? 0 : 3);
        }
        due("settle()", club.settle(), 12);
        due("hampers that members got", club.count(9), 12);
        due("of member 0", club.member(0, 10), 0);
        due("of member 11", club.member(11, 10), 3);
        due("to the shop", club.count(8), 120);
        due("tin", club.count(3), 0);
    }

    static void promise11WithoutAChoiceNobodyGetsOne() {
        HamperClub club = withStamps(clubOf(1), 0, 100);
        due("settle()", club.settle(), 0);
        due("its hamper", club.member(0, 10), NONE);
        due("paid to it", club.member(0, 9), 1000);
    }
}
