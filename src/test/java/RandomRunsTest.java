import java.util.Random;

/** Long runs of calls, drawn from fixed seeds, whose answers the program and the model must agree on. */
public final class RandomRunsTest {
    private static final int RUNS = 1500;
    private static final int CALLS = 512;
    /** Eight orders of at most seven characters with signs between them, and clearing the text. */
    private static final int LONGEST_TEXT_CALLS = 8 * 7 + 7 + 1;
    private static final String[] NAMES = {
        "join", "stick", "withdraw", "mislay", "find", "setHamper", "choose", "giveUp", "week", "settle", "take",
        "restore", "undo", "append", "clearText", "carryOut", "count", "member", "isGood", "hamper", "waiting",
        "would", "bestKind", "weeksFor"};
    private static final int[] WEIGHTS = {
        12, 60, 10, 12, 6, 10, 40, 8, 30, 2, 6,
        4, 6, 2, 1, 3, 30, 60, 8, 25, 25,
        25, 20, 15};
    private static final int[] ODD = {
        Integer.MIN_VALUE, Integer.MAX_VALUE, -1000, -10, -9, -3, -2, -1, 0, 4, 10, 11, 12, 13, 61, 64, 100, 999, 1000};

    private final Random random;
    private final HamperClub club = new HamperClub();
    private final Model model = new Model();
    private final boolean settling;

    private RandomRunsTest(int seed) {
        random = new Random(seed);
        settling = seed % 3 == 0;
    }

    public static void main(String[] args) {
        for (int run = 0; run < RUNS; run++) {
            new RandomRunsTest(run).play(run);
        }
        Check.end();
    }

    private void play(int run) {
        for (int call = 0; call < CALLS; call++) {
            String name = NAMES[drawName()];
            if (name.equals("settle") && !settling && call < CALLS - 40) {
                continue;
            }
            if (name.equals("carryOut")) {
                if (call + LONGEST_TEXT_CALLS >= CALLS) {
                    continue;
                }
                call += writeText(run, call);
            }
            int a = first(name);
            int b = second(name);
            int c = odd() ? oddNumber() : name.equals("setHamper") ? random.nextInt(4) : 1 + random.nextInt(5);
            if (!agree(run, call, name, a, b, c)) {
                return;
            }
        }
    }

    private boolean agree(int run, int call, String name, int a, int b, int c) {
        int want = model.call(name, a, b, c);
        int got = ask(name, a, b, c);
        Check.due("run " + run + ", call " + call + ": " + name + "(" + a + ", " + b + ", " + c + ")", got, want);
        return got == want;
    }

    /** Writes a text that is often without a fault, and answers how many calls that took. */
    private int writeText(int run, int call) {
        StringBuilder text = new StringBuilder();
        int orders = 1 + random.nextInt(8);
        for (int order = 0; order < orders; order++) {
            text.append(order == 0 ? "" : ";").append(order());
        }
        if (random.nextInt(3) == 0) {
            text.setCharAt(random.nextInt(text.length()), "0123456789+-hxlfw; a".charAt(random.nextInt(20)));
        }
        if (random.nextInt(6) == 0) {
            text.setLength(random.nextInt(text.length()));
        }
        agree(run, call, "clearText", 0, 0, 0);
        for (int index = 0; index < text.length(); index++) {
            agree(run, call, "append", text.charAt(index), 0, 0);
        }
        return text.length() + 1;
    }

    private String order() {
        int member = random.nextInt(10) == 0 ? random.nextInt(1000) : random.nextInt(8);
        switch (random.nextInt(9)) {
            case 0: return "w";
            case 1: return member + "x";
            case 2: return member + "l";
            case 3: return member + "f";
            case 4: return member + "-" + (random.nextInt(9) == 0 ? random.nextInt(1000) : random.nextInt(10));
            case 5: case 6: return member + "h" + random.nextInt(5);
            default: return member + "+" + random.nextInt(7);
        }
    }

    private int drawName() {
        int all = 0;
        for (int weight : WEIGHTS) {
            all += weight;
        }
        int drawn = random.nextInt(all);
        int index = 0;
        while (drawn >= WEIGHTS[index]) {
            drawn -= WEIGHTS[index];
            index++;
        }
        return index;
    }

    private boolean odd() {
        return random.nextInt(40) == 0;
    }

    private int oddNumber() {
        return ODD[random.nextInt(ODD.length)];
    }

    private int first(String name) {
        if (odd()) {
            return oddNumber();
        }
        switch (name) {
            case "setHamper": case "hamper": case "waiting": return random.nextInt(4);
            case "take": case "restore": return random.nextInt(2);
            case "append": return 1 + random.nextInt(255);
            case "count": return random.nextInt(16);
            default: return random.nextInt(9);
        }
    }

    private int second(String name) {
        if (odd()) {
            return oddNumber();
        }
        switch (name) {
            case "stick": return 1 + random.nextInt(5);
            case "withdraw": return 1 + random.nextInt(12);
            case "setHamper": return 1 + random.nextInt(random.nextInt(3) == 0 ? 200 : 25);
            case "member": return random.nextInt(11);
            case "isGood": return random.nextInt(61);
            case "waiting": return random.nextInt(6);
            case "would": return random.nextInt(3);
            default: return random.nextInt(4);
        }
    }

    private int ask(String name, int a, int b, int c) {
        switch (name) {
            case "join": return club.join();
            case "stick": return club.stick(a, b);
            case "withdraw": return club.withdraw(a, b);
            case "mislay": return club.mislay(a);
            case "find": return club.find(a);
            case "setHamper": return club.setHamper(a, b, c);
            case "choose": return club.choose(a, b);
            case "giveUp": return club.giveUp(a);
            case "week": return club.week();
            case "settle": return club.settle();
            case "take": return club.take(a);
            case "restore": return club.restore(a);
            case "undo": return club.undo();
            case "append": return club.append(a);
            case "clearText": return club.clearText();
            case "carryOut": return club.carryOut();
            case "count": return club.count(a);
            case "member": return club.member(a, b);
            case "isGood": return club.isGood(a, b);
            case "hamper": return club.hamper(a, b);
            case "waiting": return club.waiting(a, b);
            case "would": return club.would(a, b);
            case "bestKind": return club.bestKind(a);
            default: return club.weeksFor(a, b, c);
        }
    }
}
