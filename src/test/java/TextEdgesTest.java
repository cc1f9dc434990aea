/** Edges of promises 15 to 17: append, clearText, carryOut. */
public final class TextEdgesTest extends Edges {
    private static final String DIGITS = "0123456789";

    public static void main(String[] args) {
        runAll(TextEdgesTest.class);
    }

    private static String repeated(String part, int times) {
        StringBuilder all = new StringBuilder();
        for (int index = 0; index < times; index++) {
            all.append(part);
        }
        return all.toString();
    }

    private static HamperClub withText(HamperClub club, String text) {
        club.clearText();
        write(club, text);
        return club;
    }

    // ---- promise 15: append

    static void promise15OnlyCharacters1To255() {
        onlyFromTo("character", 1, 255, Edges::busy, HamperClub::append);
    }

    static void promise15TheLeastAndTheGreatestCharacter() {
        HamperClub club = new HamperClub();
        int length = 0;
        for (int character : new int[] {1, 2, 127, 128, 254, 255}) {
            length++;
            due("append(" + character + ")", club.append(character), length);
        }
    }

    static void promise15The99thAndThe100th() {
        HamperClub club = new HamperClub();
        write(club, repeated("w", 98));
        due("the 99th", club.append('w'), 99);
        due("the 100th", club.append('w'), 100);
        due("the 101st", club.append('w'), FULL);
        due("length", club.count(15), 100);
    }

    static void promise15A101stIsRefused() {
        leavesAll("the 101st", () -> withText(nearlyBusy(), repeated("w;", 49) + "0f"), club -> club.append('w'), FULL);
    }

    static void promise15InvalidIsAheadOfFull() {
        leavesAll("character 0", () -> withText(busy(), repeated("w", 100)), club -> club.append(0), INVALID);
        leavesAll("character 256", () -> withText(busy(), repeated("w", 100)), club -> club.append(256), INVALID);
    }

    static void promise15ThereIsRoomAgainBehindClearText() {
        HamperClub club = withText(new HamperClub(), repeated("w", 100));
        due("full", club.append('w'), FULL);
        club.clearText();
        due("the first", club.append('w'), 1);
    }

    static void promise15IsNoAction() {
        HamperClub club = clubOf(1);
        club.append('w');
        due("states", club.count(14), 1);
        due("undo()", club.undo(), 0);
        due("length", club.count(15), 1);
    }

    static void promise15SettledItIsNoActionAndNotRefused() {
        HamperClub club = settled();
        due("append()", club.append('w'), 6);
    }

    // ---- promise 16: clearText

    static void promise16AnEmptyText() {
        HamperClub club = new HamperClub();
        due("empty", club.clearText(), 0);
        due("empty again", club.clearText(), 0);
    }

    static void promise16OneCharacter() {
        HamperClub club = withText(new HamperClub(), "w");
        due("previous length", club.clearText(), 1);
        due("length", club.count(15), 0);
        due("empty", club.clearText(), 0);
    }

    static void promise16AFullText() {
        HamperClub club = withText(new HamperClub(), repeated("w", 100));
        due("previous length", club.clearText(), 100);
        due("length", club.count(15), 0);
    }

    static void promise16AllButTheTextStays() {
        leavesAll("a text written and cleared", Edges::nearlyBusy, club -> {
            write(club, "w;w");
            return club.clearText();
        }, 3);
    }

    static void promise16TheOldTextDoesNotComeBack() {
        HamperClub club = withText(new HamperClub(), "w;w;w");
        club.clearText();
        due("append()", club.append('w'), 1);
        due("carryOut()", club.carryOut(), 1);
        due("present week", club.count(0), 1);
    }

    static void promise16IsNoAction() {
        HamperClub club = withText(clubOf(1), "w");
        club.clearText();
        due("states", club.count(14), 1);
        club.undo();
        due("length", club.count(15), 0);
    }

    static void promise16SettledItIsNoActionAndNotRefused() {
        due("clearText()", settled().clearText(), 5);
    }

    // ---- promise 17: carryOut, the fault of the text

    private static void fault(String text, int fault) {
        leavesAll("'" + text + "'", () -> withText(busy(), text), HamperClub::carryOut, FAULT - fault);
    }

    static void promise17TheEmptyTextEndsTooEarly() {
        fault("", 0);
    }

    static void promise17ASingleSemicolon() {
        fault(";", 0);
    }

    static void promise17ASemicolonAheadOfTheFirstOrder() {
        fault(";w", 0);
    }

    static void promise17ASemicolonBehindTheLastOrder() {
        fault("w;", 2);
        fault("0+1;", 4);
    }

    static void promise17TwoSemicolons() {
        fault("w;;w", 2);
    }

    static void promise17NoSemicolonBetween() {
        fault("ww", 1);
        fault("0x0x", 2);
        fault("w0x", 1);
    }

    static void promise17AMemberAlone() {
        fault("0", 1);
        fault("10", 2);
        fault("100", 3);
    }

    static void promise17AMemberAndASignAlone() {
        fault("0+", 2);
        fault("10-", 3);
        fault("100h", 4);
    }

    static void promise17AMemberWithASemicolonBehindIt() {
        fault("0;w", 1);
        fault("0+;w", 2);
    }

    static void promise17ANumberOfFourDigits() {
        fault("1000x", 3);
        fault("0-1000", 5);
        fault("0+1234;w", 5);
        fault("0h1111", 5);
    }

    static void promise17TheFirstOfSeveralDigitsIs0() {
        fault("00x", 1);
        fault("01x", 1);
        fault("0+00", 3);
        fault("0-05", 3);
        fault("0h01", 3);
        fault("w;00x", 3);
    }

    static void promise17ANumberBehindAnOrderWithoutOne() {
        fault("0x1", 2);
        fault("0l0", 2);
        fault("0f9", 2);
        fault("w1", 1);
    }

    static void promise17AMemberBeforeAWeek() {
        fault("0w", 1);
    }

    static void promise17CapitalsAndSpaces() {
        fault("W", 0);
        fault("0X", 1);
        fault(" w", 0);
        fault("w ", 1);
        fault("w; w", 2);
    }

    static void promise17TheLeastAndTheGreatestCharacterAsFault() {
        fault("" + (char) 1, 0);
        fault("" + (char) 255, 0);
        fault("w" + (char) 255, 1);
    }

    static void promise17TheFaultOfAFullText() {
        fault(repeated("w;", 50), 100);
        fault(repeated("w;", 49) + "wx", 99);
        fault(repeated("w;", 49) + "0+", 100);
        fault(repeated("w;", 49) + "00", 99);
        fault("x" + repeated("w", 99), 0);
    }

    static void promise17TheFirstOfSeveralFaults() {
        fault("w;0y;0z", 3);
    }

    static void promise17AFaultBehindOrdersThatAreRightKeepsThemBack() {
        fault("0+5;w;0+5;y", 10);
    }

    /** Behind each beginning: the characters that end a text well, those that go on, and all others. */
    static void promise17EachCharacterAtEachPlace() {
        place("", "w", DIGITS);
        place("w", "", ";");
        place("w;", "w", DIGITS);
        for (String member : new String[] {"0", "100", "999"}) {
            place(member, "xlf", "+-h");
        }
        for (String member : new String[] {"1", "9", "10", "99"}) {
            place(member, "xlf", "+-h" + DIGITS);
        }
        for (String order : new String[] {"0x", "0l", "0f"}) {
            place(order, "", ";");
        }
        for (String order : new String[] {"0+", "0-", "0h"}) {
            place(order, DIGITS, "");
            place(order + "0", "", ";");
            place(order + "1", DIGITS, ";");
            place(order + "99", DIGITS, ";");
            place(order + "100", "", ";");
            place(order + "5;", "w", DIGITS);
        }
    }

    private static void place(String beginning, String ending, String goingOn) {
        for (int character = 1; character <= 255; character++) {
            HamperClub club = withText(new HamperClub(), beginning);
            club.append(character);
            int length = beginning.length();
            int answer = club.carryOut();
            String call = "'" + beginning + "' and character " + character;
            if (ending.indexOf(character) >= 0) {
                due(call + ", without a fault", answer >= 0 ? 1 : 0, 1);
            } else {
                boolean allowed = goingOn.indexOf(character) >= 0;
                due(call, answer, FAULT - length - (allowed ? 1 : 0));
            }
        }
    }

    // ---- promise 17: carryOut, the orders

    static void promise17ASingleOrder() {
        HamperClub club = withText(new HamperClub(), "w");
        due("carryOut()", club.carryOut(), 1);
        due("present week", club.count(0), 1);
        due("length", club.count(15), 0);
    }

    static void promise17EachKindOfOrder() {
        HamperClub club = clubOf(2);
        due("stick", carryOut(club, "1+5"), 1);
        due("stamps", club.member(1, 0), 5);
        due("withdraw", carryOut(club, "1-2"), 1);
        due("stamps then", club.member(1, 0), 3);
        due("choose", carryOut(club, "1h3"), 1);
        due("choice", club.member(1, 2), 3);
        due("give up", carryOut(club, "1x"), 1);
        due("choice then", club.member(1, 2), NONE);
        due("mislay", carryOut(club, "1l"), 1);
        due("card", club.member(1, 1), 1);
        due("find", carryOut(club, "1f"), 1);
        due("card then", club.member(1, 1), 0);
        due("week", carryOut(club, "w"), 1);
        due("present week", club.count(0), 1);
    }

    static void promise17FiftyOrdersAreTheMost() {
        HamperClub club = new HamperClub();
        due("carryOut()", carryOut(club, repeated("w;", 49) + "w"), 50);
        due("present week", club.count(0), 50);
    }

    static void promise17AFullTextWithoutAFault() {
        HamperClub club = clubOf(12);
        due("carryOut()", carryOut(club, repeated("w;", 48) + "11+5"), 49);
        due("stamps of the last order", club.member(11, 0), 5);
        due("length", club.count(15), 0);
    }

    static void promise17NumbersOfOneTwoAndThreeDigits() {
        HamperClub club = withStamps(clubOf(12), 10, 115);
        due("carryOut()", carryOut(club, "10-100;10-10;10-5;0h0;11h3"), 5);
        due("stamps", club.member(10, 0), 0);
        due("pool", club.count(4), 115 + 15);
        due("choice of 11", club.member(11, 2), 3);
    }

    /** Each of these orders is refused, so that none is carried out. */
    static void promise17RefusedOrdersAreNoFaults() {
        String[] orders = {"0+0", "0+6", "0+999", "0-0", "0-999", "0h4", "0h999", "6x", "12+1", "999+1", "999-1",
            "999h1", "999x", "999l", "999f", "5x", "3l", "0f", "1h3", "3+1", "0+1"};
        for (String order : orders) {
            HamperClub club = busy();
            club.clearText();
            due("'" + order + "'", carryOut(club, order), 0);
            due("length behind '" + order + "'", club.count(15), 0);
            due("present week behind '" + order + ";w'", carryOut(club, order + ";w") + club.count(0), 3);
        }
    }

    static void promise17UpToTheFirstRefusedOrder() {
        HamperClub first = clubOf(1);
        due("the first is refused", carryOut(first, "0x;0+5;w"), 0);
        due("stamps", first.member(0, 0), 0);
        HamperClub second = clubOf(1);
        due("the second is refused", carryOut(second, "0+5;0+5;w"), 1);
        due("stamps of the first order", second.member(0, 0), 5);
        due("the third is left out", second.count(0), 0);
        HamperClub last = clubOf(1);
        due("the last is refused", carryOut(last, "0+5;w;0x"), 2);
        due("present week", last.count(0), 1);
    }

    static void promise17AnOrderThatAnswers0IsNotRefused() {
        HamperClub club = clubOf(1);
        due("choose 0, give up 0, mislay, find at once, no lapse", carryOut(club, "0h0;0x;0l;0f;w"), 5);
    }

    static void promise17AWeek61IsRefused() {
        HamperClub club = inWeek(59, 1);
        due("one of two weeks", carryOut(club, "w;w;0+1"), 1);
        due("present week", club.count(0), 60);
        due("none of one", carryOut(club, "w"), 0);
        due("stamps", club.member(0, 0), 0);
    }

    static void promise17IsOneAction() {
        isAction(Edges::nearlyBusy, club -> carryOut(club, "1+5;0-3;5h0;4x;2l;3f;w"), 7);
    }

    static void promise17IsOneActionIfNoOrderIsCarriedOut() {
        isAction(Edges::nearlyBusy, club -> carryOut(club, "0+5"), 0);
    }

    static void promise17IsOneActionIfItStopsInTheMidst() {
        isAction(Edges::nearlyBusy, club -> carryOut(club, "1+5;w;0x;0x;w"), 3);
    }

    static void promise17TheTextStaysEmptyBehindUndo() {
        HamperClub club = withText(clubOf(1), "w;w");
        due("carryOut()", club.carryOut(), 2);
        due("undo()", club.undo(), 1);
        due("present week", club.count(0), 0);
        due("length", club.count(15), 0);
        due("carryOut() of nothing", club.carryOut(), FAULT);
    }

    static void promise17WithAFullHistoryTheOldestIsDropped() {
        HamperClub club = inWeek(10, 1);
        due("carryOut()", carryOut(club, "w;w;w"), 3);
        due("states", club.count(14), 5);
        for (int left = 4; left >= 0; left--) {
            due("undo()", club.undo(), left);
            due("present week", club.count(0), 6 + left);
        }
    }

    static void promise17SettledIsRefusedAndTheTextStays() {
        leavesAll("settled", Edges::settled, HamperClub::carryOut, ILLEGAL);
        leavesAll("settled, with an order that would be refused", () -> withText(settled(), "0x"),
            HamperClub::carryOut, ILLEGAL);
    }

    static void promise17AFaultIsAheadOfSettled() {
        leavesAll("settled, with a fault", () -> withText(settled(), "w;"), HamperClub::carryOut, FAULT - 2);
        leavesAll("settled, with an empty text", () -> withText(settled(), ""), HamperClub::carryOut, FAULT);
    }
}
