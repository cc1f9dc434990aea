/** What the tests have in common: it compares answers, and makes clubs that many tests begin with. */
final class Check {
    static final int INVALID = HamperClub.INVALID_ARGUMENT;
    static final int ILLEGAL = HamperClub.ILLEGAL_STATE;
    static final int FULL = HamperClub.CAPACITY_EXCEEDED;
    static final int NONE = HamperClub.NONE;

    private static int wrong = 0;
    private static int looked = 0;

    private Check() {
    }

    static void due(String what, long got, long want) {
        looked++;
        if (got != want) {
            wrong++;
            System.out.println(what + " answered " + got + ", due is " + want);
        }
    }

    /** Ends the program with exit code 1 if an answer was wrong. */
    static void end() {
        System.out.println(looked + " answers, " + wrong + " wrong");
        if (wrong != 0) {
            System.exit(1);
        }
    }

    static HamperClub clubOf(int members) {
        HamperClub club = new HamperClub();
        for (int member = 0; member < members; member++) {
            due("join", club.join(), member);
        }
        return club;
    }

    static void weeks(HamperClub club, int weeks) {
        for (int week = 0; week < weeks; week++) {
            club.week();
        }
    }

    /** Sticks 5 stamps in each of so many weeks, each of which passes then. */
    static void save(HamperClub club, int member, int weeks) {
        for (int week = 0; week < weeks; week++) {
            club.stick(member, 5);
            club.week();
        }
    }

    static void write(HamperClub club, String text) {
        for (int index = 0; index < text.length(); index++) {
            club.append(text.charAt(index));
        }
    }

    static int carryOut(HamperClub club, String text) {
        club.clearText();
        write(club, text);
        return club.carryOut();
    }

    /** The error is answered, and nothing that can be seen has changed. */
    static void refused(HamperClub club, String what, java.util.function.IntSupplier call, int error) {
        String before = picture(club);
        due(what, call.getAsInt(), error);
        if (!picture(club).equals(before)) {
            due(what + " changed something: was " + before + ", is " + picture(club) + "; it", 1, 0);
        }
    }

    /** All that the looking methods and forecasts tell. */
    static String picture(HamperClub club) {
        StringBuilder all = new StringBuilder();
        for (int what = 0; what <= 15; what++) {
            all.append(club.count(what)).append(' ');
        }
        for (int member = 0; member < club.count(1); member++) {
            all.append('|');
            for (int what = 0; what <= 10; what++) {
                all.append(club.member(member, what)).append(' ');
            }
            for (int week = 0; week <= 60; week++) {
                all.append(club.isGood(member, week));
            }
            for (int what = 0; what <= 2; what++) {
                all.append(' ').append(club.would(member, what));
            }
            all.append(' ').append(club.bestKind(member));
            for (int kind = 0; kind < 4; kind++) {
                all.append(' ').append(club.weeksFor(member, kind, 3));
            }
        }
        for (int kind = 0; kind < 4; kind++) {
            all.append('|');
            for (int what = 0; what <= 3; what++) {
                all.append(club.hamper(kind, what)).append(' ');
            }
            for (int place = 0; place < 12; place++) {
                all.append(club.waiting(kind, place)).append(' ');
            }
        }
        return all.toString();
    }
}
