import java.util.ArrayDeque;
import java.util.ArrayList;
import java.util.Arrays;
import java.util.Deque;
import java.util.List;
import java.util.TreeSet;
import java.util.function.ToIntFunction;
import java.util.regex.Matcher;
import java.util.regex.Pattern;

/**
 * The document a second time, written apart from the program: rows are lists, states are deep copies,
 * and the text is read by a regular expression. RandomRunsTest compares the two.
 */
final class Model {
    private static final String NUMBER = "(?:0|[1-9][0-9]{0,2})";
    private static final String ORDER = "(?:w|" + NUMBER + "(?:[-+h]" + NUMBER + "|[xlf]))";
    private static final Pattern TEXT = Pattern.compile(ORDER + "(?:;" + ORDER + ")*");
    private static final int INVALID = -1;
    private static final int ILLEGAL = -2;
    private static final int FULL = -3;
    private static final int NONE = -9;

    static final class Card {
        int stamps;
        char status = 'h';
        int mislaid;
        int joined;
        boolean drawn;
        int paid;
        int got = NONE;
        TreeSet<Integer> good = new TreeSet<>();

        Card copy() {
            Card copy = new Card();
            copy.stamps = stamps;
            copy.status = status;
            copy.mislaid = mislaid;
            copy.joined = joined;
            copy.drawn = drawn;
            copy.paid = paid;
            copy.got = got;
            copy.good = new TreeSet<>(good);
            return copy;
        }
    }

    static final class Kind {
        int price;
        int stock;
        TreeSet<Integer> kept = new TreeSet<>();
        List<Integer> row = new ArrayList<>();

        Kind(int price, int stock) {
            this.price = price;
            this.stock = stock;
        }

        Kind copy() {
            Kind copy = new Kind(price, stock);
            copy.kept = new TreeSet<>(kept);
            copy.row = new ArrayList<>(row);
            return copy;
        }
    }

    static final class Club {
        int week;
        boolean settled;
        int pool;
        int cameIn;
        int toShop;
        int lapses;
        int bonusLost;
        List<Card> cards = new ArrayList<>();
        Kind[] kinds = {new Kind(20, 2), new Kind(40, 2), new Kind(60, 1), new Kind(100, 1)};

        Club copy() {
            Club copy = new Club();
            copy.week = week;
            copy.settled = settled;
            copy.pool = pool;
            copy.cameIn = cameIn;
            copy.toShop = toShop;
            copy.lapses = lapses;
            copy.bonusLost = bonusLost;
            for (Card card : cards) {
                copy.cards.add(card.copy());
            }
            for (int kind = 0; kind < 4; kind++) {
                copy.kinds[kind] = kinds[kind].copy();
            }
            return copy;
        }

        Card card(int member) {
            return member >= 0 && member < cards.size() ? cards.get(member) : null;
        }

        int choice(int member) {
            for (int kind = 0; kind < 4; kind++) {
                if (kinds[kind].kept.contains(member) || kinds[kind].row.contains(member)) {
                    return kind;
                }
            }
            return NONE;
        }

        void release(int member) {
            for (Kind kind : kinds) {
                kind.row.remove((Integer) member);
                if (!kind.kept.remove(member)) {
                    continue;
                }
                if (kind.row.isEmpty()) {
                    kind.stock++;
                } else {
                    kind.kept.add(kind.row.remove(0));
                }
            }
        }

        int join() {
            if (settled) {
                return ILLEGAL;
            }
            if (cards.size() == 12) {
                return FULL;
            }
            Card card = new Card();
            card.joined = week;
            cards.add(card);
            return cards.size() - 1;
        }

        int stick(int member, int stamps) {
            Card card = card(member);
            if (card == null || stamps < 1 || stamps > 5) {
                return INVALID;
            }
            if (card.status != 'h' || card.good.contains(week)) {
                return ILLEGAL;
            }
            card.good.add(week);
            cameIn += 10 * stamps;
            return card.stamps += stamps;
        }

        int withdraw(int member, int stamps) {
            Card card = card(member);
            if (card == null || stamps < 1 || stamps > 999) {
                return INVALID;
            }
            if (card.status != 'h' || card.stamps < stamps) {
                return ILLEGAL;
            }
            int pence = 9 * stamps - 5;
            card.stamps -= stamps;
            card.drawn = true;
            card.paid += pence;
            pool += stamps + 5;
            return pence;
        }

        int mislay(int member) {
            Card card = card(member);
            if (card == null) {
                return INVALID;
            }
            if (card.status != 'h') {
                return ILLEGAL;
            }
            card.status = 'm';
            card.mislaid = week;
            return week + 3;
        }

        int find(int member) {
            Card card = card(member);
            if (card == null) {
                return INVALID;
            }
            if (card.status != 'm') {
                return ILLEGAL;
            }
            card.status = 'h';
            return week - card.mislaid;
        }

        int setHamper(int kind, int price, int stock) {
            if (kind < 0 || kind > 3 || price < 1 || price > 200 || stock < 0 || stock > 9) {
                return INVALID;
            }
            if (settled) {
                return ILLEGAL;
            }
            int previous = kinds[kind].price;
            kinds[kind].price = price;
            kinds[kind].stock = stock;
            return previous;
        }

        int choose(int member, int kind) {
            if (card(member) == null || kind < 0 || kind > 3) {
                return INVALID;
            }
            if (settled || choice(member) == kind) {
                return ILLEGAL;
            }
            release(member);
            if (kinds[kind].stock > 0) {
                kinds[kind].stock--;
                kinds[kind].kept.add(member);
                return 0;
            }
            kinds[kind].row.add(member);
            return kinds[kind].row.size();
        }

        int giveUp(int member) {
            if (card(member) == null) {
                return INVALID;
            }
            int kind = choice(member);
            if (kind == NONE) {
                return ILLEGAL;
            }
            release(member);
            return kind;
        }

        int week() {
            if (settled) {
                return ILLEGAL;
            }
            if (week == 60) {
                return FULL;
            }
            week++;
            for (Card card : cards) {
                if (card.status == 'm' && card.mislaid + 3 == week) {
                    int part = card.stamps / 10;
                    card.stamps -= part;
                    pool += 10 * part;
                    card.status = 'h';
                }
            }
            int lapsing = 0;
            for (int member = 0; member < cards.size(); member++) {
                Card card = cards.get(member);
                int since = card.good.isEmpty() ? card.joined : card.good.last();
                if (choice(member) != NONE && since < week - 4) {
                    release(member);
                    lapsing++;
                }
            }
            lapses += lapsing;
            return lapsing;
        }

        int bonus(int member) {
            int all = 0;
            for (Card card : cards) {
                all += card.drawn ? 0 : card.stamps;
            }
            Card own = cards.get(member);
            return own.drawn || own.stamps == 0 ? 0 : (int) ((long) pool * own.stamps / all);
        }

        int settle() {
            if (settled) {
                return ILLEGAL;
            }
            int[] bonus = new int[cards.size()];
            bonusLost = pool;
            for (int member = 0; member < bonus.length; member++) {
                bonus[member] = bonus(member);
                bonusLost -= bonus[member];
            }
            int handed = 0;
            for (int kind = 0; kind < 4; kind++) {
                for (int member : new ArrayList<>(kinds[kind].kept)) {
                    handed += serve(member, kind);
                }
            }
            for (int member = 0; member < bonus.length; member++) {
                Card card = cards.get(member);
                card.paid += 10 * card.stamps + bonus[member];
                card.stamps = 0;
                card.status = 'c';
            }
            for (Kind kind : kinds) {
                kind.row.clear();
                kind.kept.clear();
            }
            pool = 0;
            settled = true;
            return handed;
        }

        private int serve(int member, int kind) {
            Card card = cards.get(member);
            if (card.stamps >= kinds[kind].price) {
                card.stamps -= kinds[kind].price;
                card.got = kind;
                toShop += 10 * kinds[kind].price;
                kinds[kind].kept.remove(member);
                return 1;
            }
            Integer next = kinds[kind].row.isEmpty() ? null : kinds[kind].row.get(0);
            release(member);
            return next == null ? 0 : serve(next, kind);
        }

        int sum(ToIntFunction<Card> part) {
            return cards.stream().mapToInt(part).sum();
        }
    }

    static final class State {
        Club club = new Club();
        Club[] slots = new Club[2];

        State copy() {
            State copy = new State();
            copy.club = club.copy();
            for (int slot = 0; slot < 2; slot++) {
                copy.slots[slot] = slots[slot] == null ? null : slots[slot].copy();
            }
            return copy;
        }
    }

    private State state = new State();
    private final Deque<State> history = new ArrayDeque<>();
    private String text = "";

    /** Answers the call as the document tells; a is the first argument, and so on. */
    int call(String name, int a, int b, int c) {
        switch (name) {
            case "undo": return undo();
            case "append": return append(a);
            case "clearText": return clear();
            case "carryOut": return carryOut();
            case "count": return count(a);
            case "member": return member(a, b);
            case "isGood": return isGood(a, b);
            case "hamper": return hamper(a, b);
            case "waiting": return waiting(a, b);
            case "would": return would(a, b);
            case "bestKind": return bestKind(a);
            case "weeksFor": return weeksFor(a, b, c);
            default: return action(name, a, b, c);
        }
    }

    private int action(String name, int a, int b, int c) {
        State before = state.copy();
        int answer = act(name, a, b, c);
        if (answer >= 0) {
            record(before);
        }
        return answer;
    }

    private void record(State before) {
        history.addLast(before);
        if (history.size() > 5) {
            history.removeFirst();
        }
    }

    private int act(String name, int a, int b, int c) {
        Club club = state.club;
        switch (name) {
            case "join": return club.join();
            case "stick": return club.stick(a, b);
            case "withdraw": return club.withdraw(a, b);
            case "mislay": return club.mislay(a);
            case "find": return club.find(a);
            case "setHamper": return club.setHamper(a, b, c);
            case "choose": return club.choose(a, b);
            case "giveUp": return club.giveUp(a);
            case "week": return club.week();
            case "settle": return club.settle();
            case "take":
                if (a != 0 && a != 1) {
                    return INVALID;
                }
                state.slots[a] = club.copy();
                return club.week;
            case "restore":
                if (a != 0 && a != 1) {
                    return INVALID;
                }
                if (state.slots[a] == null) {
                    return ILLEGAL;
                }
                state.club = state.slots[a].copy();
                return state.club.week;
            default: throw new IllegalArgumentException(name);
        }
    }

    private int undo() {
        if (history.isEmpty()) {
            return ILLEGAL;
        }
        state = history.removeLast();
        return history.size();
    }

    private int append(int character) {
        if (character < 1 || character > 255) {
            return INVALID;
        }
        if (text.length() == 100) {
            return FULL;
        }
        text += (char) character;
        return text.length();
    }

    private int clear() {
        int length = text.length();
        text = "";
        return length;
    }

    private int carryOut() {
        if (!TEXT.matcher(text).matches()) {
            return -1000 - fault();
        }
        if (state.club.settled) {
            return ILLEGAL;
        }
        record(state.copy());
        int done = 0;
        for (String order : text.split(";")) {
            if (obey(order) < 0) {
                break;
            }
            done++;
        }
        text = "";
        return done;
    }

    /** The first character whose prefix no text of orders begins with. */
    private int fault() {
        for (int index = 0; index < text.length(); index++) {
            Matcher matcher = TEXT.matcher(text.substring(0, index + 1));
            if (!matcher.matches() && !matcher.hitEnd()) {
                return index;
            }
        }
        return text.length();
    }

    private int obey(String order) {
        if (order.equals("w")) {
            return state.club.week();
        }
        String[] numbers = order.split("[-+hxlf]");
        int member = Integer.parseInt(numbers[0]);
        int number = numbers.length > 1 ? Integer.parseInt(numbers[1]) : 0;
        switch (order.charAt(numbers[0].length())) {
            case '+': return state.club.stick(member, number);
            case '-': return state.club.withdraw(member, number);
            case 'h': return state.club.choose(member, number);
            case 'x': return state.club.giveUp(member);
            case 'l': return state.club.mislay(member);
            default: return state.club.find(member);
        }
    }

    private int count(int what) {
        Club club = state.club;
        int paid = club.sum(card -> card.paid);
        int stamps = club.sum(card -> card.stamps);
        int[] all = {
            club.week, club.cards.size(), club.settled ? 1 : 0,
            10 * stamps + club.pool + (club.settled ? club.bonusLost : 0), club.pool, stamps,
            club.cameIn, paid, club.toShop, club.sum(card -> card.got == NONE ? 0 : 1),
            club.sum(card -> card.status == 'm' ? 1 : 0), club.sum(card -> card.drawn ? 1 : 0), club.lapses,
            (int) Arrays.stream(state.slots).filter(slot -> slot != null).count(), history.size(), text.length()};
        return what < 0 || what >= all.length ? INVALID : all[what];
    }

    private int member(int member, int what) {
        Card card = state.club.card(member);
        if (card == null || what < 0 || what > 10) {
            return INVALID;
        }
        int choice = state.club.choice(member);
        Kind kind = choice == NONE ? null : state.club.kinds[choice];
        int row = 0;
        int last = card.good.contains(state.club.week) ? state.club.week : state.club.week - 1;
        while (card.good.contains(last - row)) {
            row++;
        }
        int[] all = {
            card.stamps, "hmc".indexOf(card.status), choice, kind != null && kind.kept.contains(member) ? 1 : 0,
            kind == null ? 0 : kind.row.indexOf(member) + 1, card.drawn ? 1 : 0, card.good.size(), row,
            card.good.isEmpty() ? NONE : card.good.last(), card.paid, card.got};
        return all[what];
    }

    private int isGood(int member, int week) {
        Card card = state.club.card(member);
        return card == null || week < 0 || week > 60 ? INVALID : card.good.contains(week) ? 1 : 0;
    }

    private int hamper(int kind, int what) {
        if (kind < 0 || kind > 3 || what < 0 || what > 3) {
            return INVALID;
        }
        Kind told = state.club.kinds[kind];
        return new int[] {told.price, told.stock, told.kept.size(), told.row.size()}[what];
    }

    private int waiting(int kind, int place) {
        if (kind < 0 || kind > 3 || place < 0) {
            return INVALID;
        }
        List<Integer> row = state.club.kinds[kind].row;
        return place < row.size() ? row.get(place) : NONE;
    }

    private int would(int member, int what) {
        if (state.club.card(member) == null || what < 0 || what > 2) {
            return INVALID;
        }
        if (state.club.settled) {
            return ILLEGAL;
        }
        Club then = state.club.copy();
        then.settle();
        int paid = then.card(member).paid - state.club.card(member).paid;
        return new int[] {state.club.bonus(member), then.card(member).got, paid}[what];
    }

    private int bestKind(int member) {
        if (state.club.card(member) == null) {
            return INVALID;
        }
        if (state.club.settled) {
            return ILLEGAL;
        }
        int best = NONE;
        for (int kind = 3; kind >= 0; kind--) {
            Club then = state.club.copy();
            then.choose(member, kind);
            then.settle();
            int price = then.kinds[kind].price;
            if (then.card(member).got == kind && (best == NONE || price >= then.kinds[best].price)) {
                best = kind;
            }
        }
        return best;
    }

    private int weeksFor(int member, int kind, int stamps) {
        Card card = state.club.card(member);
        if (card == null || kind < 0 || kind > 3 || stamps < 1 || stamps > 5) {
            return INVALID;
        }
        if (card.status != 'h') {
            return ILLEGAL;
        }
        int have = card.stamps + (card.good.contains(state.club.week) ? 0 : stamps);
        int weeks = 0;
        while (have < state.club.kinds[kind].price) {
            have += stamps;
            weeks++;
        }
        return weeks;
    }
}
