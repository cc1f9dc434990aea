/** What the tests have in common: it compares answers, and makes clubs that many tests begin with. */
final class Check {
    static final int INVALID = HamperClub.INVALID_ARGUMENT;
    static final int ILLEGAL = HamperClub.ILLEGAL_STATE;
    static final int FULL = HamperClub.CAPACITY_EXCEEDED;
    static final int NONE = HamperClub.NONE;

    private static int wrong = 0;
    private static int looked = 0;
    private static int lookedBefore = 0;
    private static String test = "";

    private Check() {
    }

    /** What is looked at from here on is told with the name of this test. */
    static void begin(String name) {
        test = name + ": ";
        lookedBefore = looked;
    }

    static int lookedSinceBegin() {
        return looked - lookedBefore;
    }

    static void due(String what, long got, long want) {
        looked++;
        if (got != want) {
            wrong++;
            System.out.println(test + what + " answered " + got + ", due is " + want);
        }
    }

    /** Ends the program with exit code 1 if an answer was wrong. */
    static void end() {
        System.out.println(looked + " answers, " + wrong + " wrong");
        if (wrong != 0) {
            System.exit(1);
        }
    }

    static HamperClub clubOf(int members) {
        HamperClub club = new HamperClub();
        for (int member = 0; member < members; member++) {
            due("join", club.join(), member);
        }
        return club;
    }

    static void weeks(HamperClub club, int weeks) {
        for (int week = 0; week < weeks; week++) {
            club.week();
        }
    }

    /** Sticks 5 stamps in each of so many weeks, each of which passes then. */
    static void save(HamperClub club, int member, int weeks) {
        for (int week = 0; week < weeks; week++) {
            club.stick(member, 5);
            club.week();
        }
    }

    static void write(HamperClub club, String text) {
        for (int index = 0; index < text.length(); index++) {
            club.append(text.charAt(index));
        }
    }

    static int carryOut(HamperClub club, String text) {
        club.clearText();
        write(club, text);
        return club.carryOut();
    }
}
