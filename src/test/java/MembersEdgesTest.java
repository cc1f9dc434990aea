/** Edges of promises 1 to 6: a new object, join, stick, withdraw, mislay, find. */
public final class MembersEdgesTest extends Edges {
    public static void main(String[] args) {
        runAll(MembersEdgesTest.class);
    }

    // ---- promise 1: a new object

    static void promise01EveryCountIs0() {
        HamperClub club = new HamperClub();
        for (int what = 0; what <= 15; what++) {
            due("count(" + what + ")", club.count(what), 0);
        }
    }

    static void promise01HasNoMember() {
        HamperClub club = new HamperClub();
        due("member(0, 0)", club.member(0, 0), INVALID);
        due("isGood(0, 0)", club.isGood(0, 0), INVALID);
        due("would(0, 0)", club.would(0, 0), INVALID);
        due("bestKind(0)", club.bestKind(0), INVALID);
        due("weeksFor(0, 0, 1)", club.weeksFor(0, 0, 1), INVALID);
    }

    static void promise01FirstPricesAndStocks() {
        HamperClub club = new HamperClub();
        int[] prices = {20, 40, 60, 100};
        int[] stocks = {2, 2, 1, 1};
        for (int kind = 0; kind <= 3; kind++) {
            due("price of " + kind, club.hamper(kind, 0), prices[kind]);
            due("stock of " + kind, club.hamper(kind, 1), stocks[kind]);
            due("kept of " + kind, club.hamper(kind, 2), 0);
            due("row of " + kind, club.hamper(kind, 3), 0);
            due("first in row " + kind, club.waiting(kind, 0), NONE);
        }
    }

    static void promise01TheTextIsEmpty() {
        due("clearText()", new HamperClub().clearText(), 0);
        due("carryOut()", new HamperClub().carryOut(), FAULT);
        due("the first character", new HamperClub().append('w'), 1);
    }

    static void promise01TheSlotsAreEmpty() {
        leavesAll("restore(0)", HamperClub::new, club -> club.restore(0), ILLEGAL);
        leavesAll("restore(1)", HamperClub::new, club -> club.restore(1), ILLEGAL);
    }

    static void promise01TheHistoryIsEmpty() {
        leavesAll("undo()", HamperClub::new, HamperClub::undo, ILLEGAL);
    }

    static void promise01OneClubDoesNotTouchAnother() {
        HamperClub club = new HamperClub();
        HamperClub other = busy();
        due("members of the first", club.count(1), 0);
        due("text of the first", club.count(15), 0);
        due("stock of the first", club.hamper(3, 1), 1);
        due("members of the other", other.count(1), 6);
    }

    static void promise01TheLastCallsUpToThe512th() {
        HamperClub club = clubOf(1);
        for (int call = 2; call <= 510; call++) {
            due("call " + call, call % 2 == 0 ? club.choose(0, 3) : club.giveUp(0), call % 2 == 0 ? 0 : 3);
        }
        due("call 511", club.undo(), 4);
        due("call 512", club.member(0, 2), NONE);
    }

    // ---- promise 2: join

    static void promise02TheFirstIs0AndTheTwelfth11() {
        HamperClub club = new HamperClub();
        for (int member = 0; member <= 11; member++) {
            due("join()", club.join(), member);
            due("members", club.count(1), member + 1);
        }
    }

    static void promise02AThirteenthIsRefused() {
        leavesAll("a 13th", Edges::full, HamperClub::join, FULL);
    }

    static void promise02ThereIsRoomWithElevenAgain() {
        HamperClub club = clubOf(12);
        due("a 13th", club.join(), FULL);
        due("undo()", club.undo(), 4);
        due("the 12th again", club.join(), 11);
        due("a 13th again", club.join(), FULL);
    }

    static void promise02SettledIsRefused() {
        leavesAll("settled", Edges::settled, HamperClub::join, ILLEGAL);
    }

    static void promise02SettledIsAheadOfFull() {
        leavesAll("settled and full", () -> {
            HamperClub club = full();
            club.settle();
            return club;
        }, HamperClub::join, ILLEGAL);
    }

    static void promise02InWeek0AndInWeek60() {
        due("in week 0", new HamperClub().join(), 0);
        due("in week 60", lastWeek().join(), 6);
    }

    static void promise02ANewCardIsEmptyAndInHand() {
        HamperClub club = busy();
        due("join()", club.join(), 6);
        int[] fresh = {0, 0, NONE, 0, 0, 0, 0, 0, NONE, 0, NONE};
        for (int what = 0; what <= 10; what++) {
            due("member(6, " + what + ")", club.member(6, what), fresh[what]);
        }
    }

    static void promise02ANumberComesAgainBehindUndoWithAFreshCard() {
        HamperClub club = clubOf(1);
        club.stick(0, 5);
        club.choose(0, 0);
        club.mislay(0);
        for (int left = 3; left >= 0; left--) {
            due("undo()", club.undo(), left);
        }
        due("join()", club.join(), 0);
        due("stamps", club.member(0, 0), 0);
        due("card", club.member(0, 1), 0);
        due("choice", club.member(0, 2), NONE);
        due("good weeks", club.member(0, 6), 0);
    }

    static void promise02IsAnAction() {
        isAction(Edges::nearlyBusy, HamperClub::join, 6);
    }

    // ---- promise 3: stick

    static void promise03OnlyMembers() {
        onlyMembers((club, member) -> club.stick(member, 1));
    }

    static void promise03TheFirstAndTheLastMember() {
        HamperClub club = clubOf(12);
        due("member 0", club.stick(0, 2), 2);
        due("member 11", club.stick(11, 3), 3);
    }

    static void promise03Only1To5Stamps() {
        onlyFromTo("stamps", 1, 5, Edges::busy, (club, stamps) -> club.stick(1, stamps));
    }

    static void promise03From1To5Stamps() {
        for (int stamps = 1; stamps <= 5; stamps++) {
            HamperClub club = clubOf(1);
            due("stick(0, " + stamps + ")", club.stick(0, stamps), stamps);
            due("tin", club.count(3), 10 * stamps);
            due("came in", club.count(6), 10 * stamps);
        }
    }

    static void promise03TwiceInAWeekIsRefused() {
        leavesAll("twice", Edges::busy, club -> club.stick(0, 1), ILLEGAL);
    }

    static void promise03OnceInEachOfTwoWeeks() {
        HamperClub club = clubOf(1);
        due("this week", club.stick(0, 5), 5);
        due("twice", club.stick(0, 5), ILLEGAL);
        club.week();
        due("the next week", club.stick(0, 5), 10);
        due("twice again", club.stick(0, 5), ILLEGAL);
    }

    static void promise03ARefusedOneDoesNotCountForTheWeek() {
        HamperClub club = clubOf(1);
        due("6 stamps", club.stick(0, 6), INVALID);
        due("no stamps", club.stick(0, 0), INVALID);
        due("5 stamps", club.stick(0, 5), 5);
    }

    static void promise03UndoneItMayStickAgainInTheWeek() {
        HamperClub club = clubOf(1);
        club.stick(0, 5);
        club.undo();
        due("again", club.stick(0, 4), 4);
    }

    static void promise03WhatIsWithdrawnDoesNotFreeTheWeek() {
        HamperClub club = clubOf(1);
        club.stick(0, 5);
        club.withdraw(0, 5);
        due("again", club.stick(0, 1), ILLEGAL);
        due("good", club.isGood(0, 0), 1);
    }

    static void promise03InWeek0AndInWeek60() {
        HamperClub club = clubOf(1);
        due("in week 0", club.stick(0, 1), 1);
        weeks(club, 60);
        due("in week 60", club.stick(0, 1), 2);
        due("twice in week 60", club.stick(0, 1), ILLEGAL);
    }

    static void promise03AMislaidCardIsRefused() {
        leavesAll("mislaid", Edges::busy, club -> club.stick(3, 1), ILLEGAL);
    }

    static void promise03AFoundOrReplacedCardIsInHand() {
        HamperClub club = clubOf(2);
        club.mislay(0);
        club.mislay(1);
        club.find(0);
        due("found", club.stick(0, 1), 1);
        weeks(club, 2);
        due("mislaid for 2 weeks", club.stick(1, 1), ILLEGAL);
        club.week();
        due("replaced", club.stick(1, 1), 1);
    }

    static void promise03SettledIsRefused() {
        leavesAll("settled", Edges::settled, club -> club.stick(1, 1), ILLEGAL);
    }

    static void promise03InvalidIsAheadOfIllegal() {
        leavesAll("mislaid, no stamps", Edges::busy, club -> club.stick(3, 0), INVALID);
        leavesAll("stuck, 6 stamps", Edges::busy, club -> club.stick(0, 6), INVALID);
        leavesAll("settled, 6 stamps", Edges::settled, club -> club.stick(1, 6), INVALID);
    }

    static void promise03IsAnAction() {
        isAction(Edges::nearlyBusy, club -> club.stick(1, 5), 9);
    }

    // ---- promise 4: withdraw

    static void promise04OnlyMembers() {
        onlyMembers((club, member) -> club.withdraw(member, 1));
    }

    static void promise04TheFirstAndTheLastMember() {
        HamperClub club = clubOf(12);
        club.stick(0, 5);
        club.stick(11, 5);
        due("member 0", club.withdraw(0, 1), 4);
        due("member 11", club.withdraw(11, 2), 13);
    }

    static void promise04Only1To999Stamps() {
        onlyFromTo("stamps", 1, 999, Edges::busy, (club, stamps) -> club.withdraw(0, stamps));
    }

    static void promise04998And999AreInRangeButNotOnTheCard() {
        leavesAll("998 stamps", Edges::busy, club -> club.withdraw(0, 998), ILLEGAL);
        leavesAll("999 stamps", Edges::busy, club -> club.withdraw(0, 999), ILLEGAL);
    }

    static void promise04OneMoreThanOnTheCardIsRefused() {
        leavesAll("19 of 18", Edges::busy, club -> club.withdraw(0, 19), ILLEGAL);
        leavesAll("2 of 1", Edges::busy, club -> club.withdraw(2, 2), ILLEGAL);
    }

    static void promise04AllThatIsOnTheCard() {
        HamperClub club = busy();
        due("18 of 18", club.withdraw(0, 18), 157);
        due("stamps", club.member(0, 0), 0);
        due("one more", club.withdraw(0, 1), ILLEGAL);
    }

    static void promise04OneLessThanOnTheCard() {
        HamperClub club = busy();
        due("17 of 18", club.withdraw(0, 17), 148);
        due("stamps", club.member(0, 0), 1);
        due("the last one", club.withdraw(0, 1), 4);
    }

    static void promise04AnEmptyCardIsRefused() {
        leavesAll("of none", Edges::busy, club -> club.withdraw(5, 1), ILLEGAL);
    }

    static void promise04TheChargeOfASingleStamp() {
        HamperClub club = clubOf(1);
        club.stick(0, 1);
        due("paid out", club.withdraw(0, 1), 4);
        due("pool", club.count(4), 6);
        due("tin", club.count(3), 6);
        due("paid to members", club.count(7), 4);
        due("paid to it", club.member(0, 9), 4);
    }

    static void promise04TheGreatestCard() {
        HamperClub club = withStamps(clubOf(1), 0, 305);
        due("306 of 305", club.withdraw(0, 306), ILLEGAL);
        due("305 of 305", club.withdraw(0, 305), 2740);
        due("pool", club.count(4), 310);
        due("tin", club.count(3), 310);
    }

    static void promise04TheMemberHasDrawnForGood() {
        HamperClub club = clubOf(2);
        club.stick(0, 5);
        due("ahead of it", club.member(0, 5), 0);
        club.withdraw(0, 1);
        due("then", club.member(0, 5), 1);
        weeks(club, 1);
        club.stick(0, 5);
        club.mislay(0);
        weeks(club, 3);
        due("weeks later", club.member(0, 5), 1);
        due("the other", club.member(1, 5), 0);
        club.settle();
        due("settled", club.member(0, 5), 1);
    }

    static void promise04ARefusedOneIsNoDrawing() {
        HamperClub club = clubOf(1);
        club.stick(0, 5);
        due("one too many", club.withdraw(0, 6), ILLEGAL);
        due("no stamps", club.withdraw(0, 0), INVALID);
        due("drawn", club.member(0, 5), 0);
    }

    static void promise04AMislaidCardIsRefused() {
        leavesAll("mislaid", () -> {
            HamperClub club = busy();
            club.mislay(0);
            return club;
        }, club -> club.withdraw(0, 1), ILLEGAL);
    }

    static void promise04SettledIsRefused() {
        leavesAll("settled", Edges::settled, club -> club.withdraw(0, 1), ILLEGAL);
    }

    static void promise04InvalidIsAheadOfIllegal() {
        leavesAll("mislaid, no stamps", Edges::busy, club -> club.withdraw(3, 0), INVALID);
        leavesAll("mislaid, 1000 stamps", Edges::busy, club -> club.withdraw(3, 1000), INVALID);
        leavesAll("settled, no stamps", Edges::settled, club -> club.withdraw(0, 0), INVALID);
    }

    static void promise04IsAnAction() {
        isAction(Edges::nearlyBusy, club -> club.withdraw(1, 4), 31);
    }

    // ---- promise 5: mislay

    static void promise05OnlyMembers() {
        onlyMembers(HamperClub::mislay);
    }

    static void promise05TheFirstAndTheLastMember() {
        HamperClub club = clubOf(12);
        due("member 0", club.mislay(0), 3);
        due("member 11", club.mislay(11), 3);
        due("mislaid cards", club.count(10), 2);
    }

    static void promise05AMislaidCardIsRefused() {
        leavesAll("mislaid", Edges::busy, club -> club.mislay(3), ILLEGAL);
    }

    static void promise05TheWeekOfTheReplacement() {
        due("in week 0", inWeek(0, 1).mislay(0), 3);
        due("in week 1", inWeek(1, 1).mislay(0), 4);
        due("in week 57", inWeek(57, 1).mislay(0), 60);
        due("in week 58, behind the last week", inWeek(58, 1).mislay(0), 61);
        due("in week 60", inWeek(60, 1).mislay(0), 63);
    }

    static void promise05AFoundCardIsMislaidAnew() {
        HamperClub club = clubOf(1);
        club.mislay(0);
        weeks(club, 2);
        club.find(0);
        due("in week 2", club.mislay(0), 5);
        weeks(club, 2);
        due("in week 4 still mislaid", club.member(0, 1), 1);
        club.week();
        due("in week 5 replaced", club.member(0, 1), 0);
        due("and mislaid again", club.mislay(0), 8);
    }

    static void promise05SettledIsRefused() {
        leavesAll("was in hand", Edges::settled, club -> club.mislay(1), ILLEGAL);
        leavesAll("was mislaid", Edges::settled, club -> club.mislay(3), ILLEGAL);
    }

    static void promise05IsAnAction() {
        isAction(Edges::nearlyBusy, club -> club.mislay(0), 6);
    }

    // ---- promise 6: find

    static void promise06OnlyMembers() {
        onlyMembers(HamperClub::find);
    }

    static void promise06TheFirstAndTheLastMember() {
        HamperClub club = clubOf(12);
        club.mislay(0);
        club.mislay(11);
        due("member 0", club.find(0), 0);
        due("member 11", club.find(11), 0);
        due("mislaid cards", club.count(10), 0);
    }

    static void promise06ACardInHandIsRefused() {
        leavesAll("in hand", Edges::busy, club -> club.find(0), ILLEGAL);
    }

    static void promise06AFoundCardIsRefused() {
        leavesAll("found", () -> {
            HamperClub club = busy();
            club.find(3);
            return club;
        }, club -> club.find(3), ILLEGAL);
    }

    static void promise06MislaidFor0To2Weeks() {
        for (int weeks = 0; weeks <= 2; weeks++) {
            HamperClub club = inWeek(4, 1);
            club.mislay(0);
            weeks(club, weeks);
            due("behind " + weeks + " weeks", club.find(0), weeks);
            due("in hand", club.member(0, 1), 0);
        }
    }

    static void promise06AReplacedCardIsRefused() {
        leavesAll("behind 3 weeks", () -> {
            HamperClub club = busy();
            weeks(club, 2);
            return club;
        }, club -> club.find(3), ILLEGAL);
    }

    static void promise06AFoundCardIsNotReplaced() {
        HamperClub club = withStamps(clubOf(1), 0, 10);
        club.mislay(0);
        weeks(club, 2);
        club.find(0);
        weeks(club, 3);
        due("stamps", club.member(0, 0), 10);
        due("pool", club.count(4), 0);
    }

    static void promise06InWeek60() {
        HamperClub club = inWeek(58, 1);
        club.mislay(0);
        weeks(club, 2);
        due("mislaid in week 58", club.find(0), 2);
    }

    static void promise06SettledIsRefused() {
        leavesAll("was mislaid", Edges::settled, club -> club.find(3), ILLEGAL);
        leavesAll("was in hand", Edges::settled, club -> club.find(0), ILLEGAL);
    }

    static void promise06IsAnAction() {
        isAction(Edges::nearlyBusy, club -> club.find(3), 1);
    }
}
