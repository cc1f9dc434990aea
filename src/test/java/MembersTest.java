/** Promises 1 to 6: a new object, join, stick, withdraw, mislay, find. */
public final class MembersTest {
    public static void main(String[] args) {
        newObject();
        join();
        stick();
        withdraw();
        mislay();
        find();
        Check.end();
    }

    private static void newObject() {
        HamperClub club = new HamperClub();
        for (int what = 0; what <= 15; what++) {
            Check.due("1: count(" + what + ") of a new club", club.count(what), 0);
        }
        int[] prices = {20, 40, 60, 100};
        int[] stocks = {2, 2, 1, 1};
        for (int kind = 0; kind < 4; kind++) {
            Check.due("1: price of " + kind, club.hamper(kind, 0), prices[kind]);
            Check.due("1: stock of " + kind, club.hamper(kind, 1), stocks[kind]);
            Check.due("1: kept of " + kind, club.hamper(kind, 2), 0);
            Check.due("1: row of " + kind, club.hamper(kind, 3), 0);
        }
        Check.due("1: no member 0", club.member(0, 0), Check.INVALID);
        Check.due("1: nothing to undo", club.undo(), Check.ILLEGAL);
        Check.due("1: the text is empty", club.carryOut(), -1000);
        HamperClub other = Check.clubOf(1);
        Check.due("1: clubs are apart", club.count(1), 0);
        Check.due("1: clubs are apart", other.count(1), 1);
    }

    private static void join() {
        HamperClub club = Check.clubOf(2);
        Check.weeks(club, 3);
        Check.due("2: join in week 3", club.join(), 2);
        int[] fresh = {0, 0, Check.NONE, 0, 0, 0, 0, 0, Check.NONE, 0, Check.NONE};
        for (int what = 0; what < fresh.length; what++) {
            Check.due("2: member(2, " + what + ")", club.member(2, what), fresh[what]);
        }
        Check.due("2: choose", club.choose(2, 0), 0);
        Check.weeks(club, 4);
        Check.due("2: 4 weeks behind its joining", club.member(2, 2), 0);
        Check.due("2: 5 weeks behind its joining", club.week(), 1);
        for (int member = 3; member < 12; member++) {
            Check.due("2: join", club.join(), member);
        }
        Check.due("2: 12 members", club.count(1), 12);
        Check.due("2: a 13th", club.join(), Check.FULL);
        Check.due("2: is an action", club.undo(), 4);
        Check.due("2: 11 members", club.count(1), 11);
        club.join();
        club.settle();
        Check.due("2: settled ahead of full", club.join(), Check.ILLEGAL);
    }

    private static void stick() {
        HamperClub club = Check.clubOf(2);
        Check.due("3: member -1", club.stick(-1, 1), Check.INVALID);
        Check.due("3: member 2 of 2", club.stick(2, 1), Check.INVALID);
        Check.due("3: no stamps", club.stick(0, 0), Check.INVALID);
        Check.due("3: 6 stamps", club.stick(0, 6), Check.INVALID);
        Check.due("3: least", club.stick(Integer.MIN_VALUE, Integer.MIN_VALUE), Check.INVALID);
        Check.due("3: greatest", club.stick(Integer.MAX_VALUE, 1), Check.INVALID);
        Check.due("3: 1 stamp", club.stick(0, 1), 1);
        Check.due("3: 5 stamps", club.stick(1, 5), 5);
        Check.due("3: tin", club.count(3), 60);
        Check.due("3: came in", club.count(6), 60);
        Check.due("3: good week", club.isGood(0, 0), 1);
        Check.due("3: twice in a week", club.stick(0, 1), Check.ILLEGAL);
        Check.due("3: invalid ahead of illegal", club.stick(0, 6), Check.INVALID);
        club.week();
        Check.due("3: next week", club.stick(0, 4), 5);
        club.mislay(1);
        Check.due("3: mislaid", club.stick(1, 1), Check.ILLEGAL);
        club.find(1);
        Check.due("3: found", club.stick(1, 2), 7);
        club.undo();
        Check.due("3: is an action", club.member(1, 0), 5);
        Check.due("3: undone, the week is not good", club.isGood(1, 1), 0);
        club.settle();
        Check.due("3: settled", club.stick(1, 1), Check.ILLEGAL);
        Check.due("3: settled behind invalid", club.stick(2, 1), Check.INVALID);
    }

    private static void withdraw() {
        HamperClub club = Check.clubOf(2);
        Check.save(club, 0, 3);
        Check.due("4: no such member", club.withdraw(2, 1), Check.INVALID);
        Check.due("4: member -1", club.withdraw(-1, 1), Check.INVALID);
        Check.due("4: no stamps", club.withdraw(0, 0), Check.INVALID);
        Check.due("4: 1000 stamps", club.withdraw(0, 1000), Check.INVALID);
        Check.due("4: 999 stamps", club.withdraw(0, 999), Check.ILLEGAL);
        Check.due("4: one too many", club.withdraw(0, 16), Check.ILLEGAL);
        Check.due("4: of an empty card", club.withdraw(1, 1), Check.ILLEGAL);
        Check.due("4: 4 stamps", club.withdraw(0, 4), 31);
        Check.due("4: tin", club.count(3), 119);
        Check.due("4: pool", club.count(4), 9);
        Check.due("4: paid out", club.count(7), 31);
        Check.due("4: paid to it", club.member(0, 9), 31);
        Check.due("4: stamps", club.member(0, 0), 11);
        Check.due("4: drawn", club.member(0, 5), 1);
        Check.due("4: the other not", club.member(1, 5), 0);
        Check.due("4: 1 stamp", club.withdraw(0, 1), 4);
        Check.due("4: all", club.withdraw(0, 10), 85);
        Check.due("4: pool then", club.count(4), 30);
        Check.due("4: tin is the pool then", club.count(3), 30);
        Check.due("4: is an action", club.undo(), 4);
        Check.due("4: undone", club.member(0, 0), 10);
        club.mislay(0);
        Check.due("4: mislaid", club.withdraw(0, 1), Check.ILLEGAL);
        club.settle();
        Check.due("4: settled", club.withdraw(0, 1), Check.ILLEGAL);
        Check.due("4: settled behind invalid", club.withdraw(0, 0), Check.INVALID);
    }

    private static void mislay() {
        HamperClub club = Check.clubOf(2);
        Check.due("5: no such member", club.mislay(2), Check.INVALID);
        Check.due("5: member -1", club.mislay(-1), Check.INVALID);
        Check.weeks(club, 2);
        Check.due("5: in week 2", club.mislay(0), 5);
        Check.due("5: state", club.member(0, 1), 1);
        Check.due("5: mislaid cards", club.count(10), 1);
        Check.due("5: twice", club.mislay(0), Check.ILLEGAL);
        Check.weeks(club, 2);
        Check.due("5: still in week 4", club.member(0, 1), 1);
        club.week();
        Check.due("5: replaced in week 5", club.member(0, 1), 0);
        Check.due("5: again", club.mislay(0), 8);
        club.undo();
        Check.due("5: is an action", club.member(0, 1), 0);
        Check.weeks(club, 55);
        Check.due("5: in week 60", club.mislay(1), 63);
        club.settle();
        Check.due("5: settled", club.mislay(0), Check.ILLEGAL);
        Check.due("5: settled behind invalid", club.mislay(2), Check.INVALID);
    }

    private static void find() {
        HamperClub club = Check.clubOf(2);
        Check.due("6: no such member", club.find(2), Check.INVALID);
        Check.due("6: member -1", club.find(-1), Check.INVALID);
        Check.due("6: in hand", club.find(0), Check.ILLEGAL);
        club.week();
        club.mislay(0);
        Check.due("6: at once", club.find(0), 0);
        club.mislay(0);
        Check.weeks(club, 2);
        Check.due("6: behind 2 weeks", club.find(0), 2);
        Check.due("6: in hand then", club.member(0, 1), 0);
        Check.due("6: twice", club.find(0), Check.ILLEGAL);
        club.undo();
        Check.due("6: is an action", club.member(0, 1), 1);
        club.mislay(1);
        club.week();
        Check.due("6: replaced", club.find(0), Check.ILLEGAL);
        Check.due("6: the other", club.find(1), 1);
        club.mislay(1);
        club.settle();
        Check.due("6: settled", club.find(1), Check.ILLEGAL);
        Check.due("6: settled behind invalid", club.find(2), Check.INVALID);
    }
}
