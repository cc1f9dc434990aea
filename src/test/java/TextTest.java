/** Promises 15 to 17: append, clearText, carryOut. */
public final class TextTest {
    public static void main(String[] args) {
        append();
        clearText();
        faults();
        carryOut();
        carryOutErrors();
        oneAction();
        Check.end();
    }

    private static void append() {
        HamperClub club = new HamperClub();
        Check.due("15: character 0", club.append(0), Check.INVALID);
        Check.due("15: character 256", club.append(256), Check.INVALID);
        Check.due("15: character -1", club.append(-1), Check.INVALID);
        for (int length = 1; length <= 100; length++) {
            Check.due("15: append", club.append(length % 2 == 0 ? 1 : 255), length);
        }
        Check.due("15: a 101st", club.append('w'), Check.FULL);
        Check.due("15: invalid ahead of full", club.append(256), Check.INVALID);
        Check.due("15: is no action", club.count(14), 0);
        club.clearText();
        club.settle();
        Check.due("15: settled", club.append('w'), 1);
    }

    private static void clearText() {
        HamperClub club = new HamperClub();
        Check.due("16: empty", club.clearText(), 0);
        Check.write(club, "0+1");
        Check.due("16: 3 characters", club.clearText(), 3);
        Check.due("16: empty then", club.count(15), 0);
        Check.due("16: is no action", club.count(14), 0);
        Check.due("16: appended anew", club.append('w'), 1);
        Check.due("16: the new text alone", club.carryOut(), 1);
    }

    private static void fault(String text, int fault) {
        HamperClub club = Check.clubOf(1);
        Check.write(club, text);
        Check.due("17: fault of '" + text + "'", club.carryOut(), -1000 - fault);
    }

    private static void faults() {
        fault("", 0);
        fault(";", 0);
        fault(" w", 0);
        fault("W", 0);
        fault("+1", 0);
        fault("w;", 2);
        fault("w;;w", 2);
        fault("ww", 1);
        fault("w1", 1);
        fault("0", 1);
        fault("0;", 1);
        fault("0w", 1);
        fault("00+1", 1);
        fault("01+1", 1);
        fault("1234+1", 3);
        fault("123", 3);
        fault("0+", 2);
        fault("0+x", 2);
        fault("0+;w", 2);
        fault("0+01", 3);
        fault("0+1234", 5);
        fault("0-", 2);
        fault("0-1x", 3);
        fault("0h", 2);
        fault("0h00", 3);
        fault("0h1 ", 3);
        fault("0x1", 2);
        fault("0l;0ff", 5);
        fault("0*1", 1);
        fault("0,1", 1);
        fault("0/", 1);
        fault("0:", 1);
        fault("0+1;w;0x;", 9);
        StringBuilder long100 = new StringBuilder();
        while (long100.length() < 100) {
            long100.append("w;");
        }
        fault(long100.toString(), 100);
        fault(long100.substring(0, 99) + "w", 99);
    }

    private static void carryOut() {
        HamperClub club = Check.clubOf(11);
        Check.due("17: all orders", Check.carryOut(club, "0+5;10+4;w;0+5;0-3;10h3;1h3;10x;0l;0f;w"), 11);
        Check.due("17: stick and withdraw", club.member(0, 0), 7);
        Check.due("17: member 10", club.member(10, 0), 4);
        Check.due("17: choose and give up", club.member(1, 3), 1);
        Check.due("17: mislay and find", club.count(10), 0);
        Check.due("17: weeks", club.count(0), 2);
        Check.due("17: the text is empty then", club.count(15), 0);
        Check.due("17: one action", club.undo(), 4);
        Check.due("17: undone", club.count(5), 0);
        Check.due("17: undone, the week", club.count(0), 0);
        Check.due("17: the text stays empty", club.count(15), 0);
        Check.due("17: only the first", Check.carryOut(club, "0l"), 1);
        Check.due("17: mislaid", club.member(0, 1), 1);
        StringBuilder weeks = new StringBuilder("w");
        for (int week = 1; week < 50; week++) {
            weeks.append(";w");
        }
        Check.due("17: 50 orders", Check.carryOut(club, weeks.toString()), 50);
        Check.due("17: week 50", club.count(0), 50);
        Check.due("17: up to week 60", Check.carryOut(club, weeks.toString()), 10);
        Check.due("17: week 60", club.count(0), 60);
        Check.due("17: a number of three digits", Check.carryOut(club, "0-999;0+1"), 0);
    }

    private static void oneAction() {
        HamperClub club = Check.clubOf(12);
        Check.save(club, 11, 3);
        Check.due("17: numbers of two digits", Check.carryOut(club, "11-12;11+3;w"), 3);
        Check.due("17: 15 - 12 + 3", club.member(11, 0), 6);
        club.undo();
        Check.due("17: as it was ahead of the text", club.member(11, 0), 15);
        Check.due("17: the week, too", club.count(0), 3);
        Check.due("17: the members, too", club.count(1), 12);
    }

    private static void carryOutErrors() {
        HamperClub club = Check.clubOf(1);
        Check.due("17: stops at the first error", Check.carryOut(club, "0+5;0+5;w"), 1);
        Check.due("17: the rest is left out", club.count(0), 0);
        Check.due("17: what was done stays", club.member(0, 0), 5);
        Check.due("17: the text is empty then", club.count(15), 0);
        Check.due("17: no order", Check.carryOut(club, "1+5"), 0);
        Check.due("17: is an action, too", club.count(14), 3);
        Check.due("17: no such stamps", Check.carryOut(club, "0+0"), 0);
        Check.due("17: no such kind", Check.carryOut(club, "0h4"), 0);
        Check.due("17: no such member", Check.carryOut(club, "999x"), 0);
        Check.due("17: no choice", Check.carryOut(club, "w;0x;w"), 1);
        Check.due("17: not mislaid", Check.carryOut(club, "0f"), 0);
        Check.due("17: mislaid twice", Check.carryOut(club, "0l;0l"), 1);
        Check.due("17: kind 0, an answer of 0 is none", Check.carryOut(club, "0h0;0x;0h1"), 3);
        club.settle();
        club.clearText();
        Check.write(club, "w");
        Check.due("17: settled", club.carryOut(), Check.ILLEGAL);
        Check.write(club, "w");
        Check.due("17: a fault ahead of settled", club.carryOut(), -1001);
        Check.due("17: the text of an error stays", club.clearText(), 2);
    }
}
