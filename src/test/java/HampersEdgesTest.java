/** Edges of promises 7 to 9: setHamper, choose, giveUp. */
public final class HampersEdgesTest extends Edges {
    public static void main(String[] args) {
        runAll(HampersEdgesTest.class);
    }

    // ---- promise 7: setHamper

    static void promise07OnlyKinds0To3() {
        onlyFromTo("kind", 0, 3, Edges::busy, (club, kind) -> club.setHamper(kind, 10, 1));
    }

    static void promise07OnlyPrices1To200() {
        onlyFromTo("price", 1, 200, Edges::busy, (club, price) -> club.setHamper(3, price, 1));
    }

    static void promise07OnlyStocks0To9() {
        onlyFromTo("stock", 0, 9, Edges::busy, (club, stock) -> club.setHamper(3, 10, stock));
    }

    static void promise07TheFirstAndTheLastKind() {
        HamperClub club = new HamperClub();
        due("kind 0", club.setHamper(0, 11, 3), 20);
        due("kind 3", club.setHamper(3, 12, 4), 100);
        due("price of 0", club.hamper(0, 0), 11);
        due("stock of 3", club.hamper(3, 1), 4);
        due("price of 1", club.hamper(1, 0), 40);
        due("price of 2", club.hamper(2, 0), 60);
    }

    static void promise07TheLeastAndTheGreatestPrice() {
        HamperClub club = new HamperClub();
        int previous = 20;
        for (int price : new int[] {1, 2, 199, 200}) {
            due("price " + price, club.setHamper(0, price, 1), previous);
            due("price then", club.hamper(0, 0), price);
            previous = price;
        }
    }

    static void promise07TheLeastAndTheGreatestStock() {
        HamperClub club = new HamperClub();
        for (int stock : new int[] {0, 1, 8, 9}) {
            due("stock " + stock, club.setHamper(0, 20, stock), 20);
            due("stock then", club.hamper(0, 1), stock);
        }
    }

    static void promise07StockDoesNotCountThoseThatAreKept() {
        HamperClub club = busy();
        due("with one kept", club.setHamper(3, 100, 0), 100);
        due("stock", club.hamper(3, 1), 0);
        due("kept", club.hamper(3, 2), 1);
        due("with a stock of 9", club.setHamper(3, 100, 9), 100);
        due("stock then", club.hamper(3, 1), 9);
        due("kept then", club.hamper(3, 2), 1);
    }

    static void promise07NobodyInTheRowGetsOneByIt() {
        HamperClub club = busy();
        club.setHamper(3, 100, 9);
        due("row", club.hamper(3, 3), 2);
        due("first in it", club.waiting(3, 0), 2);
        due("none is kept for it", club.member(2, 3), 0);
        due("place", club.member(2, 4), 1);
    }

    static void promise07AStockOf9GrowsTo10ByOneGivenUp() {
        HamperClub club = clubOf(1);
        club.choose(0, 0);
        club.setHamper(0, 20, 9);
        due("given up", club.giveUp(0), 0);
        due("stock", club.hamper(0, 1), 10);
        due("chosen again", club.choose(0, 0), 0);
        due("stock then", club.hamper(0, 1), 9);
    }

    static void promise07AStockOf9IsKeptForNineAndTheTenthWaits() {
        HamperClub club = clubOf(12);
        club.setHamper(1, 40, 9);
        for (int member = 0; member <= 8; member++) {
            due("choose", club.choose(member, 1), 0);
        }
        due("the 10th", club.choose(9, 1), 1);
        due("kept", club.hamper(1, 2), 9);
        due("stock", club.hamper(1, 1), 0);
    }

    static void promise07SettledIsRefused() {
        leavesAll("settled", Edges::settled, club -> club.setHamper(0, 10, 1), ILLEGAL);
    }

    static void promise07InvalidIsAheadOfSettled() {
        leavesAll("kind 4", Edges::settled, club -> club.setHamper(4, 10, 1), INVALID);
        leavesAll("price 201", Edges::settled, club -> club.setHamper(0, 201, 1), INVALID);
        leavesAll("stock 10", Edges::settled, club -> club.setHamper(0, 10, 10), INVALID);
    }

    static void promise07IsAnAction() {
        isAction(Edges::nearlyBusy, club -> club.setHamper(3, 1, 9), 100);
    }

    static void promise07IsAnActionWithTheSameNumbersToo() {
        isAction(Edges::nearlyBusy, club -> club.setHamper(3, 100, 0), 100);
    }

    // ---- promise 8: choose

    static void promise08OnlyMembers() {
        onlyMembers((club, member) -> club.choose(member, 2));
    }

    static void promise08OnlyKinds0To3() {
        onlyFromTo("kind", 0, 3, Edges::busy, (club, kind) -> club.choose(5, kind));
        leavesAll("NONE, which is its choice", Edges::busy, club -> club.choose(5, NONE), INVALID);
    }

    static void promise08TheFirstAndTheLastMemberAndKind() {
        HamperClub club = clubOf(12);
        due("member 0, kind 0", club.choose(0, 0), 0);
        due("member 11, kind 3", club.choose(11, 3), 0);
        due("choice of 0", club.member(0, 2), 0);
        due("choice of 11", club.member(11, 2), 3);
    }

    static void promise08AStockOf1IsEnoughAndOf0IsNot() {
        HamperClub club = clubOf(3);
        due("with a stock of 1", club.choose(2, 3), 0);
        due("stock", club.hamper(3, 1), 0);
        due("with a stock of 0", club.choose(0, 3), 1);
        due("stock stays", club.hamper(3, 1), 0);
        due("kept for the first", club.member(2, 3), 1);
        due("not for the second", club.member(0, 3), 0);
    }

    static void promise08WithAStockOneIsKeptWhoeverWaits() {
        HamperClub club = busy();
        club.setHamper(3, 100, 1);
        due("member 5", club.choose(5, 3), 0);
        due("first in the row", club.waiting(3, 0), 2);
        due("second in the row", club.waiting(3, 1), 0);
        due("stock", club.hamper(3, 1), 0);
    }

    static void promise08TheEndOfTheRow() {
        HamperClub club = busy();
        due("member 5", club.choose(5, 3), 3);
        due("its place", club.member(5, 4), 3);
        due("who waits there", club.waiting(3, 2), 5);
        due("nobody behind it", club.waiting(3, 3), NONE);
    }

    static void promise08TheLongestRow() {
        HamperClub club = clubOf(12);
        club.setHamper(2, 60, 0);
        for (int member = 0; member <= 11; member++) {
            due("choose", club.choose(member, 2), member + 1);
        }
        due("row", club.hamper(2, 3), 12);
    }

    static void promise08TheChoiceThatItHasIsRefused() {
        leavesAll("one is kept", Edges::busy, club -> club.choose(1, 3), ILLEGAL);
        leavesAll("waits as the first", Edges::busy, club -> club.choose(2, 3), ILLEGAL);
        leavesAll("waits as the last", Edges::busy, club -> club.choose(0, 3), ILLEGAL);
        leavesAll("kind 0", Edges::busy, club -> club.choose(4, 0), ILLEGAL);
    }

    static void promise08TheSameKindAgainBehindGivingUp() {
        HamperClub club = busy();
        club.giveUp(1);
        due("to the end of the row", club.choose(1, 3), 2);
        club.giveUp(4);
        due("one is kept", club.choose(4, 0), 0);
    }

    static void promise08AKeptOneIsGivenUpFirst() {
        HamperClub club = busy();
        due("another kind", club.choose(1, 2), 0);
        due("the former is kept for the first in the row", club.member(2, 3), 1);
        due("the row is shorter", club.hamper(3, 3), 1);
        due("who is behind moves up", club.member(0, 4), 1);
        due("stock of the former", club.hamper(3, 1), 0);
        due("with an empty row", club.choose(4, 2), 0);
        due("the former goes to the stock", club.hamper(0, 1), 2);
    }

    static void promise08WaitingIsGivenUpFirst() {
        HamperClub club = busy();
        due("the first in the row goes", club.choose(2, 0), 0);
        due("the second moves up", club.member(0, 4), 1);
        due("the kept one stays", club.member(1, 3), 1);
        due("the last in the row goes", club.choose(0, 2), 0);
        due("the row is empty", club.hamper(3, 3), 0);
    }

    static void promise08AMislaidOrDrawnOrEmptyCardMayChoose() {
        HamperClub club = busy();
        due("mislaid", club.choose(3, 2), 0);
        due("drawn", club.choose(0, 2), 0);
        due("without stamps", club.choose(5, 2), 0);
    }

    static void promise08SettledIsRefused() {
        leavesAll("settled", Edges::settled, club -> club.choose(5, 2), ILLEGAL);
        leavesAll("settled, of the former choice", Edges::settled, club -> club.choose(1, 3), ILLEGAL);
    }

    static void promise08InvalidIsAheadOfSettled() {
        leavesAll("kind 4", Edges::settled, club -> club.choose(0, 4), INVALID);
    }

    static void promise08IsAnAction() {
        isAction(Edges::nearlyBusy, club -> club.choose(1, 2), 0);
    }

    // ---- promise 9: giveUp

    static void promise09OnlyMembers() {
        onlyMembers(HamperClub::giveUp);
    }

    static void promise09TheFirstAndTheLastMemberAndKind() {
        HamperClub club = clubOf(12);
        club.choose(0, 3);
        club.choose(11, 0);
        due("member 0", club.giveUp(0), 3);
        due("member 11", club.giveUp(11), 0);
    }

    static void promise09NoChoiceIsRefused() {
        leavesAll("no choice", Edges::busy, club -> club.giveUp(5), ILLEGAL);
    }

    static void promise09TwiceIsRefused() {
        leavesAll("twice", () -> {
            HamperClub club = busy();
            club.giveUp(1);
            return club;
        }, club -> club.giveUp(1), ILLEGAL);
    }

    static void promise09AKeptOneWithAnEmptyRowGoesToTheStock() {
        HamperClub club = busy();
        due("kind 0", club.giveUp(4), 0);
        due("stock", club.hamper(0, 1), 2);
        due("kept", club.hamper(0, 2), 0);
        due("choice", club.member(4, 2), NONE);
    }

    static void promise09AKeptOneWithARowOfOneIsKeptForIt() {
        HamperClub club = clubOf(2);
        club.choose(1, 3);
        club.choose(0, 3);
        due("kind 3", club.giveUp(1), 3);
        due("kept for the other", club.member(0, 3), 1);
        due("its choice", club.member(0, 2), 3);
        due("its place", club.member(0, 4), 0);
        due("row", club.hamper(3, 3), 0);
        due("stock", club.hamper(3, 1), 0);
    }

    static void promise09AKeptOneWithTheLongestRow() {
        HamperClub club = clubOf(12);
        for (int member = 11; member >= 0; member--) {
            club.choose(member, 3);
        }
        due("row", club.hamper(3, 3), 11);
        due("kind 3", club.giveUp(11), 3);
        due("kept for the first", club.member(10, 3), 1);
        for (int place = 0; place <= 9; place++) {
            due("place " + place, club.waiting(3, place), 9 - place);
            due("place of " + (9 - place), club.member(9 - place, 4), place + 1);
        }
        due("row then", club.hamper(3, 3), 10);
    }

    static void promise09AKeptOneBesideAStockGoesToTheRowFirst() {
        HamperClub club = busy();
        club.setHamper(3, 100, 5);
        club.giveUp(1);
        due("kept for the first in the row", club.member(2, 3), 1);
        due("stock stays", club.hamper(3, 1), 5);
    }

    static void promise09TheFirstTheMiddleAndTheLastOfARow() {
        for (int leaving = 1; leaving <= 3; leaving++) {
            HamperClub club = clubOf(4);
            for (int member = 0; member <= 3; member++) {
                club.choose(member, 3);
            }
            due("member " + leaving, club.giveUp(leaving), 3);
            int place = 0;
            for (int member = 1; member <= 3; member++) {
                if (member != leaving) {
                    due("place " + place + " without " + leaving, club.waiting(3, place), member);
                    place++;
                }
            }
            due("nobody behind", club.waiting(3, 2), NONE);
            due("the kept one stays", club.member(0, 3), 1);
            due("stock stays", club.hamper(3, 1), 0);
        }
    }

    static void promise09TheOnlyOneOfARow() {
        HamperClub club = clubOf(1);
        club.setHamper(2, 60, 0);
        club.choose(0, 2);
        due("kind 2", club.giveUp(0), 2);
        due("row", club.hamper(2, 3), 0);
        due("stock", club.hamper(2, 1), 0);
    }

    static void promise09AnotherRowStays() {
        HamperClub club = clubOf(4);
        club.setHamper(0, 20, 0);
        club.setHamper(1, 40, 0);
        club.choose(0, 0);
        club.choose(1, 0);
        club.choose(2, 1);
        club.choose(3, 1);
        due("the first of row 0", club.giveUp(0), 0);
        due("second of row 1", club.member(3, 4), 2);
        due("first of row 1", club.member(2, 4), 1);
    }

    static void promise09SettledIsRefused() {
        leavesAll("one was kept", Edges::settled, club -> club.giveUp(1), ILLEGAL);
        leavesAll("had waited", Edges::settled, club -> club.giveUp(2), ILLEGAL);
    }

    static void promise09IsAnActionOfKind0Too() {
        isAction(Edges::nearlyBusy, club -> club.giveUp(4), 0);
        isAction(Edges::nearlyBusy, club -> club.giveUp(1), 3);
    }
}
