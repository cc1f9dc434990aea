/** Promises 7 to 9: setHamper, choose, giveUp. */
public final class HampersTest {
    public static void main(String[] args) {
        setHamper();
        choose();
        chooseAnother();
        keptAheadOfTheRow();
        giveUp();
        giveUpWaiting();
        Check.end();
    }

    private static void setHamper() {
        HamperClub club = Check.clubOf(3);
        Check.due("7: kind -1", club.setHamper(-1, 1, 0), Check.INVALID);
        Check.due("7: kind 4", club.setHamper(4, 1, 0), Check.INVALID);
        Check.due("7: price 0", club.setHamper(0, 0, 0), Check.INVALID);
        Check.due("7: price 201", club.setHamper(0, 201, 0), Check.INVALID);
        Check.due("7: stock -1", club.setHamper(0, 1, -1), Check.INVALID);
        Check.due("7: stock 10", club.setHamper(0, 1, 10), Check.INVALID);
        Check.due("7: least", club.setHamper(0, 1, 0), 20);
        Check.due("7: greatest", club.setHamper(0, 200, 9), 1);
        Check.due("7: price", club.hamper(0, 0), 200);
        Check.due("7: stock", club.hamper(0, 1), 9);
        Check.due("7: is an action", club.undo(), 4);
        Check.due("7: undone", club.hamper(0, 1), 0);
        Check.due("7: the last kind", club.setHamper(3, 100, 1), 100);
        club.choose(0, 3);
        club.choose(1, 3);
        Check.due("7: with one kept and one waiting", club.setHamper(3, 50, 9), 100);
        Check.due("7: the kept one stays kept", club.hamper(3, 2), 1);
        Check.due("7: the row stays", club.hamper(3, 3), 1);
        Check.due("7: stock is as told", club.hamper(3, 1), 9);
        club.giveUp(1);
        club.giveUp(0);
        Check.due("7: given up, it is in the stock besides", club.hamper(3, 1), 10);
        club.settle();
        Check.due("7: settled", club.setHamper(0, 1, 0), Check.ILLEGAL);
        Check.due("7: settled behind invalid", club.setHamper(0, 0, 0), Check.INVALID);
    }

    private static void choose() {
        HamperClub club = Check.clubOf(5);
        Check.due("8: no such member", club.choose(5, 0), Check.INVALID);
        Check.due("8: member -1", club.choose(-1, 0), Check.INVALID);
        Check.due("8: kind 4", club.choose(0, 4), Check.INVALID);
        Check.due("8: kind -1", club.choose(0, -1), Check.INVALID);
        Check.due("8: kind NONE", club.choose(0, Check.NONE), Check.INVALID);
        Check.due("8: kept", club.choose(3, 0), 0);
        Check.due("8: kept too", club.choose(1, 0), 0);
        Check.due("8: first in the row", club.choose(4, 0), 1);
        Check.due("8: second", club.choose(0, 0), 2);
        Check.due("8: third", club.choose(2, 0), 3);
        Check.due("8: choice", club.member(2, 2), 0);
        Check.due("8: stock", club.hamper(0, 1), 0);
        Check.due("8: kept ones", club.hamper(0, 2), 2);
        Check.due("8: waiting", club.hamper(0, 3), 3);
        Check.due("8: kept already", club.choose(3, 0), Check.ILLEGAL);
        Check.due("8: waits already", club.choose(4, 0), Check.ILLEGAL);
        club.mislay(4);
        Check.due("8: with a mislaid card", club.choose(4, 1), 0);
        Check.due("8: is an action", club.undo(), 4);
        Check.due("8: undone", club.member(4, 4), 1);
        club.settle();
        Check.due("8: settled", club.choose(0, 1), Check.ILLEGAL);
        Check.due("8: settled behind invalid", club.choose(0, 4), Check.INVALID);
    }

    private static void chooseAnother() {
        HamperClub club = Check.clubOf(4);
        club.choose(0, 2);
        club.choose(1, 2);
        club.choose(2, 2);
        Check.due("8: gives up the kept one first", club.choose(0, 3), 0);
        Check.due("8: then it is kept for the first", club.member(1, 3), 1);
        Check.due("8: the next moves up", club.member(2, 4), 1);
        Check.due("8: leaves the row", club.choose(2, 3), 1);
        Check.due("8: row of the former kind", club.hamper(2, 3), 0);
        Check.due("8: back", club.choose(0, 2), 1);
        Check.due("8: the other kind is kept for who waited", club.member(2, 3), 1);
        Check.due("8: one kept, given up without a row", club.choose(2, 0), 0);
        Check.due("8: goes to the stock", club.hamper(3, 1), 1);
    }

    private static void keptAheadOfTheRow() {
        HamperClub club = Check.clubOf(3);
        club.setHamper(0, 20, 0);
        Check.due("8: waits", club.choose(0, 0), 1);
        club.setHamper(0, 20, 1);
        Check.due("8: with a stock one is kept, whoever waits", club.choose(1, 0), 0);
        Check.due("8: who waited waits", club.member(0, 4), 1);
        Check.due("8: behind it", club.choose(2, 0), 2);
    }

    private static void giveUp() {
        HamperClub club = Check.clubOf(3);
        Check.due("9: no such member", club.giveUp(3), Check.INVALID);
        Check.due("9: member -1", club.giveUp(-1), Check.INVALID);
        Check.due("9: no choice", club.giveUp(0), Check.ILLEGAL);
        club.choose(0, 3);
        club.choose(2, 3);
        club.choose(1, 3);
        Check.due("9: a kept one", club.giveUp(0), 3);
        Check.due("9: no choice then", club.member(0, 2), Check.NONE);
        Check.due("9: not kept then", club.member(0, 3), 0);
        Check.due("9: kept for the first in the row", club.member(2, 3), 1);
        Check.due("9: which waits no more", club.member(2, 4), 0);
        Check.due("9: the next moves up", club.member(1, 4), 1);
        Check.due("9: not into the stock", club.hamper(3, 1), 0);
        Check.due("9: twice", club.giveUp(0), Check.ILLEGAL);
        Check.due("9: is an action", club.undo(), 4);
        Check.due("9: undone", club.member(0, 3), 1);
        club.giveUp(0);
        club.giveUp(2);
        Check.due("9: the last one", club.giveUp(1), 3);
        Check.due("9: goes to the stock", club.hamper(3, 1), 1);
        club.choose(0, 0);
        Check.due("9: kind 0", club.giveUp(0), 0);
        club.choose(0, 0);
        club.settle();
        Check.due("9: settled", club.giveUp(0), Check.ILLEGAL);
        Check.due("9: settled behind invalid", club.giveUp(3), Check.INVALID);
    }

    private static void giveUpWaiting() {
        HamperClub club = Check.clubOf(5);
        for (int member = 0; member < 5; member++) {
            club.choose(member, 2);
        }
        Check.due("9: in the midst of the row", club.giveUp(2), 2);
        Check.due("9: it stands in no row", club.member(2, 4), 0);
        Check.due("9: ahead of it nothing moves", club.member(1, 4), 1);
        Check.due("9: behind it all move up", club.member(3, 4), 2);
        Check.due("9: the last, too", club.member(4, 4), 3);
        Check.due("9: stock stays", club.hamper(2, 1), 0);
        Check.due("9: kept stays", club.hamper(2, 2), 1);
    }
}
