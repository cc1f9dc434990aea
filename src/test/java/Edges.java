import java.lang.reflect.InvocationTargetException;
import java.lang.reflect.Method;
import java.util.ArrayList;
import java.util.Arrays;
import java.util.Comparator;
import java.util.List;
import java.util.function.Supplier;
import java.util.function.ToIntFunction;

/**
 * What the tests of edges have in common: each is a method of its own, named after its promise and its case.
 * A call that must change nothing is tried on one of two twins, which are compared then. Twins are made anew
 * for each comparison, since nothing is promised about an object behind its 512th call.
 */
abstract class Edges {
    static final int INVALID = HamperClub.INVALID_ARGUMENT;
    static final int ILLEGAL = HamperClub.ILLEGAL_STATE;
    static final int FULL = HamperClub.CAPACITY_EXCEEDED;
    static final int NONE = HamperClub.NONE;
    static final int FAULT = -1000;

    private static final List<ToIntFunction<HamperClub>> FUTURES = futures();

    /** A call with one of its arguments left open. */
    interface CallWith {
        int on(HamperClub club, int number);
    }

    /** Runs each test of the class, and ends the program with exit code 1 if one fails. */
    static void runAll(Class<?> tests) {
        Method[] methods = tests.getDeclaredMethods();
        Arrays.sort(methods, Comparator.comparing(Method::getName));
        for (Method method : methods) {
            if (method.getName().startsWith("promise")) {
                Check.begin(method.getName());
                runOne(method);
                Check.due("looks at something", Check.lookedSinceBegin() > 0 ? 1 : 0, 1);
            }
        }
        Check.end();
    }

    private static void runOne(Method method) {
        try {
            method.setAccessible(true);
            method.invoke(null);
        } catch (InvocationTargetException thrown) {
            Check.due("threw " + thrown.getCause(), 1, 0);
        } catch (IllegalAccessException closed) {
            Check.due("can't be run: " + closed, 1, 0);
        }
    }

    static void due(String what, long got, long want) {
        Check.due(what, got, want);
    }

    /** The call is answered so, and leaves all as it was, also what only later calls would tell. */
    static void leavesAll(String what, Supplier<HamperClub> recipe, ToIntFunction<HamperClub> call, int answer) {
        due(what, call.applyAsInt(recipe.get()), answer);
        for (int future = 0; future < FUTURES.size(); future++) {
            compare(what + ", future " + future, recipe, call, FUTURES.get(future));
        }
        HamperClub touched = recipe.get();
        call.applyAsInt(touched);
        due(what + ", all good weeks", goodWeeks(touched).equals(goodWeeks(recipe.get())) ? 1 : 0, 1);
    }

    private static void compare(String what, Supplier<HamperClub> recipe, ToIntFunction<HamperClub> call,
            ToIntFunction<HamperClub> future) {
        HamperClub untouched = recipe.get();
        String want = future.applyAsInt(untouched) + ": " + picture(untouched);
        HamperClub touched = recipe.get();
        call.applyAsInt(touched);
        String got = future.applyAsInt(touched) + ": " + picture(touched);
        due(what + " changed something: was " + want + ", is " + got + "; it", got.equals(want) ? 0 : 1, 0);
    }

    /** Now and in each of the next weeks, in which weeks of joining and mislaying show that no call tells. */
    static void alike(String what, Supplier<HamperClub> made, Supplier<HamperClub> wanted) {
        for (int weeks = 0; weeks <= 5; weeks++) {
            HamperClub got = made.get();
            HamperClub want = wanted.get();
            int answers = repeat(weeks, got, HamperClub::week);
            due(what + ", " + weeks + " weeks on", answers, repeat(weeks, want, HamperClub::week));
            due(what + ", all of it " + weeks + " weeks on", picture(got).equals(picture(want)) ? 1 : 0, 1);
        }
        due(what + ", all good weeks", goodWeeks(made.get()).equals(goodWeeks(wanted.get())) ? 1 : 0, 1);
    }

    /** What may happen later, by which twins could be told apart. */
    private static List<ToIntFunction<HamperClub>> futures() {
        List<ToIntFunction<HamperClub>> all = new ArrayList<>();
        all.add(club -> 0);
        for (int times = 1; times <= 6; times++) {
            int calls = times;
            all.add(club -> repeat(calls, club, HamperClub::undo));
        }
        for (int times = 1; times <= 5; times++) {
            int calls = times;
            all.add(club -> repeat(calls, club, HamperClub::week));
        }
        for (int number = 0; number <= 1; number++) {
            int slot = number;
            all.add(club -> club.restore(slot));
            all.add(club -> 1000 * club.undo() + club.restore(slot));
        }
        all.add(Edges::findAll);
        all.add(HamperClub::carryOut);
        return all;
    }

    private static int repeat(int calls, HamperClub club, ToIntFunction<HamperClub> call) {
        int answers = 0;
        for (int index = 0; index < calls; index++) {
            answers = 31 * answers + call.applyAsInt(club);
        }
        return answers;
    }

    private static int findAll(HamperClub club) {
        int answers = 0;
        for (int member = 0; member < 12; member++) {
            answers = 31 * answers + club.find(member);
        }
        return answers;
    }

    /** Some 310 calls at most, so that with the recipe and a future it stays within the 512. */
    private static String picture(HamperClub club) {
        StringBuilder all = new StringBuilder();
        for (int what = 0; what <= 15; what++) {
            all.append(club.count(what)).append(' ');
        }
        for (int kind = 0; kind < 4; kind++) {
            all.append('|');
            for (int what = 0; what <= 3; what++) {
                all.append(club.hamper(kind, what)).append(' ');
            }
            for (int place = 0; place <= 12; place++) {
                all.append(club.waiting(kind, place)).append(' ');
            }
        }
        int members = club.count(1);
        for (int member = 0; member < members; member++) {
            all.append('|');
            for (int what = 0; what <= 10; what++) {
                all.append(club.member(member, what)).append(' ');
            }
            for (int what = 0; what <= 2; what++) {
                all.append(club.would(member, what)).append(' ');
            }
            all.append(club.bestKind(member)).append(' ').append(club.weeksFor(member, 3, 1));
        }
        return all.toString();
    }

    private static String goodWeeks(HamperClub club) {
        StringBuilder all = new StringBuilder();
        for (int member = 0; member < 6; member++) {
            for (int week = 0; week <= 60; week++) {
                all.append(club.isGood(member, week));
            }
        }
        return all.toString();
    }

    /** The numbers just outside, and those farthest outside, are invalid and change nothing. */
    static void onlyFromTo(String what, int least, int greatest, Supplier<HamperClub> recipe, CallWith call) {
        for (int number : new int[] {Integer.MIN_VALUE, least - 1, greatest + 1, Integer.MAX_VALUE}) {
            leavesAll(what + " " + number, recipe, club -> call.on(club, number), INVALID);
        }
    }

    /** Only a number of a member is taken: in a club of none, of six, of twelve; settled, too. */
    static void onlyMembers(CallWith call) {
        leavesAll("member 0 of none", HamperClub::new, club -> call.on(club, 0), INVALID);
        onlyFromTo("member", 0, 5, Edges::busy, call);
        leavesAll("member 12 of 12", Edges::full, club -> call.on(club, 12), INVALID);
        leavesAll("member 6 of 6, settled", Edges::settled, club -> call.on(club, 6), INVALID);
    }

    /** The call is recorded, and undone all is as it was. */
    static void isAction(Supplier<HamperClub> recipe, ToIntFunction<HamperClub> call, int answer) {
        HamperClub club = recipe.get();
        int states = club.count(14);
        due("the action", call.applyAsInt(club), answer);
        due("states in the history behind it", club.count(14), states + 1);
        leavesAll("the action undone", recipe, twin -> {
            call.applyAsInt(twin);
            return twin.undo();
        }, states);
    }

    // ---- clubs

    static HamperClub clubOf(int members) {
        HamperClub club = new HamperClub();
        for (int member = 0; member < members; member++) {
            club.join();
        }
        return club;
    }

    static HamperClub inWeek(int week, int members) {
        HamperClub club = clubOf(members);
        weeks(club, week);
        return club;
    }

    static void weeks(HamperClub club, int weeks) {
        for (int week = 0; week < weeks; week++) {
            club.week();
        }
    }

    /** Has the member so many stamps on its card, 5 a week and the rest in the last week, which is the present one. */
    static HamperClub withStamps(HamperClub club, int member, int stamps) {
        int left = stamps;
        while (left > 5) {
            club.stick(member, 5);
            club.week();
            left -= 5;
        }
        club.stick(member, left);
        return club;
    }

    static void write(HamperClub club, String text) {
        for (int index = 0; index < text.length(); index++) {
            club.append(text.charAt(index));
        }
    }

    static int carryOut(HamperClub club, String text) {
        write(club, text);
        return club.carryOut();
    }

    /**
     * Six members in week 3, in which nearly all is other than at first; the history is full:
     * 0 has 18 stamps, has stuck in this week, has drawn, and is the second in row 3;
     * 1 has 4 stamps and one of kind 3 kept; 2 has 1 stamp and is the first in row 3;
     * 3 has mislaid its card in week 2, without stamps, and has one of kind 1 kept;
     * 4 has nothing but one of kind 0 kept; 5 has nothing at all. A stock of 3 of kind 2 costs 59 stamps each.
     */
    static HamperClub busy() {
        HamperClub club = nearlyBusy();
        club.choose(3, 1);
        write(club, "0h1;w");
        return club;
    }

    /** The last action and the text are missing: there is room in the history for one more state. */
    static HamperClub nearlyBusy() {
        HamperClub club = clubOf(6);
        club.stick(0, 5);
        club.stick(1, 4);
        club.choose(1, 3);
        club.choose(2, 3);
        club.week();
        club.stick(0, 5);
        club.stick(2, 1);
        club.choose(0, 3);
        club.take(0);
        club.week();
        club.stick(0, 5);
        club.mislay(3);
        club.choose(4, 0);
        club.week();
        club.withdraw(0, 2);
        club.take(1);
        club.setHamper(2, 59, 3);
        // two are undone, so that what the history holds behind its end is not the present state
        club.stick(5, 1);
        club.week();
        club.undo();
        club.undo();
        club.stick(0, 5);
        return club;
    }

    static HamperClub full() {
        HamperClub club = busy();
        for (int member = 6; member < 12; member++) {
            club.join();
        }
        return club;
    }

    static HamperClub settled() {
        HamperClub club = busy();
        club.settle();
        return club;
    }

    static HamperClub lastWeek() {
        HamperClub club = busy();
        weeks(club, 57);
        return club;
    }
}
