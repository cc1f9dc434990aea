import java.util.Arrays;

/** A savings club for Christmas; shared/DOC.md tells what each method promises. */
public final class HamperClub {
    public static final int INVALID_ARGUMENT = -1;
    public static final int ILLEGAL_STATE = -2;
    public static final int CAPACITY_EXCEEDED = -3;
    public static final int NONE = -9;

    private static final int MOST_MEMBERS = 12;
    private static final int KINDS = 4;
    private static final int LAST_WEEK = 60;
    private static final int STAMP_PENCE = 10;
    private static final int MOST_STUCK = 5;
    private static final int MOST_WITHDRAWN = 999;
    private static final int CHARGE_PENCE = 5;
    private static final int WEEKS_MISLAID = 3;
    private static final int REPLACEMENT_PART = 10;
    private static final int WEEKS_TO_LAPSE = 4;
    private static final int GREATEST_PRICE = 200;
    private static final int GREATEST_STOCK = 9;
    private static final int[] FIRST_PRICES = {20, 40, 60, 100};
    private static final int[] FIRST_STOCKS = {2, 2, 1, 1};

    private static final int IN_HAND = 0;
    private static final int MISLAID = 1;
    private static final int CLOSED = 2;

    private static final int MOST_STATES = 5;
    private static final int MOST_CHARACTERS = 100;
    private static final int GREATEST_CHARACTER = 255;
    private static final int MOST_DIGITS = 3;
    private static final int NO_FAULT = -1;
    private static final int NO_NUMBER = -1;
    private static final int NO_CHARACTER = 0;
    private static final int FAULT_ANSWER = -1000;

    private final State state;
    private final History history;
    private final Orders orders;
    /** Forecasts are tried out here, made once because objects are counted. */
    private final Club trial;

    public HamperClub() {
        state = new State();
        history = new History();
        orders = new Orders();
        trial = new Club();
    }

    // ---- members

    public int join() {
        history.draft(state);
        return recorded(state.club.addMember());
    }

    public int stick(int member, int stamps) {
        history.draft(state);
        return recorded(state.club.stickStamps(member, stamps));
    }

    public int withdraw(int member, int stamps) {
        history.draft(state);
        return recorded(state.club.withdrawStamps(member, stamps));
    }

    public int mislay(int member) {
        history.draft(state);
        return recorded(state.club.mislayCard(member));
    }

    public int find(int member) {
        history.draft(state);
        return recorded(state.club.findCard(member));
    }

    // ---- hampers, weeks

    public int setHamper(int kind, int price, int stock) {
        history.draft(state);
        return recorded(state.club.changeKind(kind, price, stock));
    }

    public int choose(int member, int kind) {
        history.draft(state);
        return recorded(state.club.chooseKind(member, kind));
    }

    public int giveUp(int member) {
        history.draft(state);
        return recorded(state.club.giveUpChoice(member));
    }

    public int week() {
        history.draft(state);
        return recorded(state.club.passWeek());
    }

    public int settle() {
        history.draft(state);
        return recorded(state.club.settleAll());
    }

    // ---- snapshots

    public int take(int slot) {
        history.draft(state);
        return recorded(state.takeSnapshot(slot));
    }

    public int restore(int slot) {
        history.draft(state);
        return recorded(state.restoreSnapshot(slot));
    }

    public int undo() {
        return history.putBackLatest(state) ? history.size : ILLEGAL_STATE;
    }

    // ---- text

    public int append(int character) {
        if (character < 1 || character > GREATEST_CHARACTER) {
            return INVALID_ARGUMENT;
        }
        return orders.add(character) ? orders.length : CAPACITY_EXCEEDED;
    }

    public int clearText() {
        int previous = orders.length;
        orders.length = 0;
        return previous;
    }

    public int carryOut() {
        int fault = orders.fault();
        if (fault != NO_FAULT) {
            return FAULT_ANSWER - fault;
        }
        if (state.club.settled) {
            return ILLEGAL_STATE;
        }
        history.draft(state);
        int done = orders.carryOutOn(state.club);
        orders.length = 0;
        return recorded(done);
    }

    // ---- looking

    public int count(int what) {
        switch (what) {
            case 13: return state.snapshots();
            case 14: return history.size;
            case 15: return orders.length;
            default: return state.club.tell(what);
        }
    }

    public int member(int member, int what) {
        return state.club.tellOfMember(member, what);
    }

    public int isGood(int member, int week) {
        Cards cards = state.club.cards;
        if (!cards.exists(member) || week < 0 || week > LAST_WEEK) {
            return INVALID_ARGUMENT;
        }
        return cards.isGoodIn(member, week) ? 1 : 0;
    }

    public int hamper(int kind, int what) {
        return state.club.hampers.tell(kind, what);
    }

    public int waiting(int kind, int place) {
        if (!isKind(kind) || place < 0) {
            return INVALID_ARGUMENT;
        }
        return state.club.hampers.memberInRow(kind, place);
    }

    // ---- what could be, which changes nothing

    public int would(int member, int what) {
        Club club = state.club;
        if (!club.cards.exists(member) || what < 0 || what > 2) {
            return INVALID_ARGUMENT;
        }
        if (club.settled) {
            return ILLEGAL_STATE;
        }
        if (what == 0) {
            return club.bonusOf(member);
        }
        trial.copyFrom(club);
        trial.settleAll();
        if (what == 1) {
            return trial.hampers.got[member];
        }
        return trial.cards.paid[member] - club.cards.paid[member];
    }

    public int bestKind(int member) {
        Club club = state.club;
        if (!club.cards.exists(member)) {
            return INVALID_ARGUMENT;
        }
        if (club.settled) {
            return ILLEGAL_STATE;
        }
        int best = NONE;
        for (int kind = 0; kind < KINDS; kind++) {
            boolean better = best == NONE || club.hampers.price[kind] > club.hampers.price[best];
            if (better && wouldGet(member, kind)) {
                best = kind;
            }
        }
        return best;
    }

    public int weeksFor(int member, int kind, int stamps) {
        Club club = state.club;
        if (!club.cards.exists(member) || !isKind(kind) || stamps < 1 || stamps > MOST_STUCK) {
            return INVALID_ARGUMENT;
        }
        if (!club.cards.isInHand(member)) {
            return ILLEGAL_STATE;
        }
        int thisWeek = club.cards.isGoodIn(member, club.week) ? 0 : stamps;
        int missing = club.hampers.price[kind] - club.cards.stamps[member] - thisWeek;
        return missing <= 0 ? 0 : (missing + stamps - 1) / stamps;
    }

    /** A success is never below 0, and an error always is. */
    private int recorded(int answer) {
        if (answer >= 0) {
            history.keepDraft();
        }
        return answer;
    }

    /** The choice that a member has is refused by chooseKind, which leaves it as it is: so it is tried, too. */
    private boolean wouldGet(int member, int kind) {
        trial.copyFrom(state.club);
        trial.chooseKind(member, kind);
        trial.settleAll();
        return trial.hampers.got[member] == kind;
    }

    private static boolean isKind(int kind) {
        return kind >= 0 && kind < KINDS;
    }

    /** The cards, by member. A number of a member is looked at by exists() before it comes to the other methods. */
    private static final class Cards {
        int count;
        final int[] stamps = new int[MOST_MEMBERS];
        /** IN_HAND, MISLAID or CLOSED. */
        final int[] status = new int[MOST_MEMBERS];
        final int[] mislaidIn = new int[MOST_MEMBERS];
        final int[] joinedIn = new int[MOST_MEMBERS];
        final int[] paid = new int[MOST_MEMBERS];
        /** 1 or 0, as it is told. */
        final int[] drawn = new int[MOST_MEMBERS];
        /** A bit for each week: the 61 weeks have room in a long. */
        final long[] goodWeeks = new long[MOST_MEMBERS];
        final int[] latestGood = new int[MOST_MEMBERS];

        Cards() {
            Arrays.fill(latestGood, NONE);
        }

        void copyFrom(Cards other) {
            count = other.count;
            System.arraycopy(other.stamps, 0, stamps, 0, MOST_MEMBERS);
            System.arraycopy(other.status, 0, status, 0, MOST_MEMBERS);
            System.arraycopy(other.mislaidIn, 0, mislaidIn, 0, MOST_MEMBERS);
            System.arraycopy(other.joinedIn, 0, joinedIn, 0, MOST_MEMBERS);
            System.arraycopy(other.paid, 0, paid, 0, MOST_MEMBERS);
            System.arraycopy(other.drawn, 0, drawn, 0, MOST_MEMBERS);
            System.arraycopy(other.goodWeeks, 0, goodWeeks, 0, MOST_MEMBERS);
            System.arraycopy(other.latestGood, 0, latestGood, 0, MOST_MEMBERS);
        }

        boolean exists(int member) {
            return member >= 0 && member < count;
        }

        boolean isInHand(int member) {
            return status[member] == IN_HAND;
        }

        boolean isGoodIn(int member, int week) {
            return (goodWeeks[member] >> week & 1L) == 1L;
        }

        /** Whether the member has a part in the pool. */
        boolean shares(int member) {
            return drawn[member] == 0 && stamps[member] >= 1;
        }

        int sharedStamps() {
            int sum = 0;
            for (int member = 0; member < count; member++) {
                sum += shares(member) ? stamps[member] : 0;
            }
            return sum;
        }

        int allStamps() {
            int sum = 0;
            for (int member = 0; member < count; member++) {
                sum += stamps[member];
            }
            return sum;
        }

        int mislaidCards() {
            int sum = 0;
            for (int member = 0; member < count; member++) {
                sum += status[member] == MISLAID ? 1 : 0;
            }
            return sum;
        }

        int drawnMembers() {
            int sum = 0;
            for (int member = 0; member < count; member++) {
                sum += drawn[member];
            }
            return sum;
        }

        void makeGood(int member, int week) {
            goodWeeks[member] |= 1L << week;
            latestGood[member] = week;
        }

        int rowOfGoodWeeks(int member, int week) {
            int last = isGoodIn(member, week) ? week : week - 1;
            int row = 0;
            for (int good = last; good >= 0 && isGoodIn(member, good); good--) {
                row++;
            }
            return row;
        }

        boolean hasLapsed(int member, int week) {
            int since = latestGood[member] == NONE ? joinedIn[member] : latestGood[member];
            return week - since > WEEKS_TO_LAPSE;
        }
    }

    /** The kinds, and who has chosen which. A number of a kind or a member is looked at before it comes here. */
    private static final class Hampers {
        final int[] price = new int[KINDS];
        final int[] stock = new int[KINDS];
        final int[] choice = new int[MOST_MEMBERS];
        /** The place in the row, from 1 on; 0 with a choice that is kept, so that who moves up from 1 has it kept. */
        final int[] place = new int[MOST_MEMBERS];
        final int[] got = new int[MOST_MEMBERS];

        Hampers() {
            System.arraycopy(FIRST_PRICES, 0, price, 0, KINDS);
            System.arraycopy(FIRST_STOCKS, 0, stock, 0, KINDS);
            Arrays.fill(choice, NONE);
            Arrays.fill(got, NONE);
        }

        void copyFrom(Hampers other) {
            System.arraycopy(other.price, 0, price, 0, KINDS);
            System.arraycopy(other.stock, 0, stock, 0, KINDS);
            System.arraycopy(other.choice, 0, choice, 0, MOST_MEMBERS);
            System.arraycopy(other.place, 0, place, 0, MOST_MEMBERS);
            System.arraycopy(other.got, 0, got, 0, MOST_MEMBERS);
        }

        boolean hasOneKept(int member) {
            return choice[member] != NONE && place[member] == 0;
        }

        int keptOf(int kind) {
            int sum = 0;
            for (int member = 0; member < MOST_MEMBERS; member++) {
                sum += choice[member] == kind && place[member] == 0 ? 1 : 0;
            }
            return sum;
        }

        int rowLength(int kind) {
            int sum = 0;
            for (int member = 0; member < MOST_MEMBERS; member++) {
                sum += choice[member] == kind && place[member] > 0 ? 1 : 0;
            }
            return sum;
        }

        /** The member that has so many others ahead of it in the row, NONE if there is none. */
        int memberInRow(int kind, int ahead) {
            for (int member = 0; member < MOST_MEMBERS; member++) {
                if (choice[member] == kind && place[member] > 0 && place[member] - 1 == ahead) {
                    return member;
                }
            }
            return NONE;
        }

        int tell(int kind, int what) {
            if (!isKind(kind)) {
                return INVALID_ARGUMENT;
            }
            switch (what) {
                case 0: return price[kind];
                case 1: return stock[kind];
                case 2: return keptOf(kind);
                case 3: return rowLength(kind);
                default: return INVALID_ARGUMENT;
            }
        }

        /** For a member without a choice; answers its place, 0 if one is kept for it. */
        int put(int member, int kind) {
            int end = 0;
            if (stock[kind] > 0) {
                stock[kind]--;
            } else {
                end = rowLength(kind) + 1;
            }
            choice[member] = kind;
            place[member] = end;
            return end;
        }

        /** For a member with a choice; answers for whom one is kept now by this, NONE if for nobody. */
        int drop(int member, int kind) {
            int left = place[member];
            int next = left == 0 ? memberInRow(kind, 0) : NONE;
            choice[member] = NONE;
            place[member] = 0;
            for (int other = 0; other < MOST_MEMBERS; other++) {
                if (choice[other] == kind && place[other] > left) {
                    place[other]--;
                }
            }
            if (left == 0 && next == NONE) {
                stock[kind]++;
            }
            return next;
        }

        /** One that is handed out comes back to nobody, neither to the row nor to the stock. */
        void handOut(int member, int kind) {
            got[member] = kind;
            choice[member] = NONE;
        }

        void forgetChoices() {
            Arrays.fill(choice, NONE);
            Arrays.fill(place, 0);
        }
    }

    /** The pence: the tin is always what came in less what was paid out and what went to the shop. */
    private static final class Accounts {
        int tin;
        int pool;
        int cameIn;
        int paidOut;
        int toShop;

        void copyFrom(Accounts other) {
            tin = other.tin;
            pool = other.pool;
            cameIn = other.cameIn;
            paidOut = other.paidOut;
            toShop = other.toShop;
        }

        void takeIn(int pence) {
            tin += pence;
            cameIn += pence;
        }

        void payOut(int pence) {
            tin -= pence;
            paidOut += pence;
        }

        void payShop(int pence) {
            tin -= pence;
            toShop += pence;
        }
    }

    /** What a snapshot keeps, with the rules of the club; its actions change nothing if they answer an error. */
    private static final class Club {
        int week;
        boolean settled;
        int handedOut;
        int lapses;
        final Cards cards = new Cards();
        final Hampers hampers = new Hampers();
        final Accounts accounts = new Accounts();

        void copyFrom(Club other) {
            week = other.week;
            settled = other.settled;
            handedOut = other.handedOut;
            lapses = other.lapses;
            cards.copyFrom(other.cards);
            hampers.copyFrom(other.hampers);
            accounts.copyFrom(other.accounts);
        }

        int addMember() {
            if (settled) {
                return ILLEGAL_STATE;
            }
            if (cards.count >= MOST_MEMBERS) {
                return CAPACITY_EXCEEDED;
            }
            int member = cards.count;
            cards.joinedIn[member] = week;
            cards.count++;
            return member;
        }

        int stickStamps(int member, int number) {
            if (!cards.exists(member) || number < 1 || number > MOST_STUCK) {
                return INVALID_ARGUMENT;
            }
            if (!cards.isInHand(member) || cards.isGoodIn(member, week)) {
                return ILLEGAL_STATE;
            }
            cards.makeGood(member, week);
            cards.stamps[member] += number;
            accounts.takeIn(number * STAMP_PENCE);
            return cards.stamps[member];
        }

        int withdrawStamps(int member, int number) {
            if (!cards.exists(member) || number < 1 || number > MOST_WITHDRAWN) {
                return INVALID_ARGUMENT;
            }
            if (!cards.isInHand(member) || cards.stamps[member] < number) {
                return ILLEGAL_STATE;
            }
            int worth = number * STAMP_PENCE;
            int charge = Math.min(number + CHARGE_PENCE, worth);
            cards.stamps[member] -= number;
            cards.drawn[member] = 1;
            accounts.pool += charge;
            payMember(member, worth - charge);
            return worth - charge;
        }

        int mislayCard(int member) {
            if (!cards.exists(member)) {
                return INVALID_ARGUMENT;
            }
            if (!cards.isInHand(member)) {
                return ILLEGAL_STATE;
            }
            cards.status[member] = MISLAID;
            cards.mislaidIn[member] = week;
            return week + WEEKS_MISLAID;
        }

        int findCard(int member) {
            if (!cards.exists(member)) {
                return INVALID_ARGUMENT;
            }
            if (cards.status[member] != MISLAID) {
                return ILLEGAL_STATE;
            }
            cards.status[member] = IN_HAND;
            return week - cards.mislaidIn[member];
        }

        int changeKind(int kind, int price, int stock) {
            boolean priceFits = price >= 1 && price <= GREATEST_PRICE;
            boolean stockFits = stock >= 0 && stock <= GREATEST_STOCK;
            if (!isKind(kind) || !priceFits || !stockFits) {
                return INVALID_ARGUMENT;
            }
            if (settled) {
                return ILLEGAL_STATE;
            }
            int previous = hampers.price[kind];
            hampers.price[kind] = price;
            hampers.stock[kind] = stock;
            return previous;
        }

        int chooseKind(int member, int kind) {
            if (!cards.exists(member) || !isKind(kind)) {
                return INVALID_ARGUMENT;
            }
            int before = hampers.choice[member];
            if (settled || before == kind) {
                return ILLEGAL_STATE;
            }
            if (isKind(before)) {
                hampers.drop(member, before);
            }
            return hampers.put(member, kind);
        }

        int giveUpChoice(int member) {
            if (!cards.exists(member)) {
                return INVALID_ARGUMENT;
            }
            int kind = hampers.choice[member];
            if (!isKind(kind)) {
                return ILLEGAL_STATE;
            }
            hampers.drop(member, kind);
            return kind;
        }

        int passWeek() {
            if (settled) {
                return ILLEGAL_STATE;
            }
            if (week >= LAST_WEEK) {
                return CAPACITY_EXCEEDED;
            }
            week++;
            replaceCards();
            int lapsing = dropLapsed();
            lapses += lapsing;
            return lapsing;
        }

        private void replaceCards() {
            for (int member = 0; member < cards.count; member++) {
                boolean mislaid = cards.status[member] == MISLAID;
                if (mislaid && week - cards.mislaidIn[member] >= WEEKS_MISLAID) {
                    int charge = cards.stamps[member] / REPLACEMENT_PART;
                    cards.stamps[member] -= charge;
                    accounts.pool += charge * STAMP_PENCE;
                    cards.status[member] = IN_HAND;
                }
            }
        }

        private int dropLapsed() {
            int lapsing = 0;
            for (int member = 0; member < cards.count; member++) {
                int kind = hampers.choice[member];
                if (isKind(kind) && cards.hasLapsed(member, week)) {
                    hampers.drop(member, kind);
                    lapsing++;
                }
            }
            return lapsing;
        }

        /** The bonuses come first, since hampers take stamps from the cards that they are reckoned by. */
        int settleAll() {
            if (settled) {
                return ILLEGAL_STATE;
            }
            for (int member = 0; member < cards.count; member++) {
                payMember(member, bonusOf(member));
            }
            accounts.pool = 0;
            for (int kind = 0; kind < KINDS; kind++) {
                handOutKind(kind);
            }
            for (int member = 0; member < cards.count; member++) {
                payMember(member, cards.stamps[member] * STAMP_PENCE);
                cards.stamps[member] = 0;
                cards.status[member] = CLOSED;
            }
            hampers.forgetChoices();
            settled = true;
            return handedOut;
        }

        int bonusOf(int member) {
            int shared = cards.sharedStamps();
            if (shared == 0 || !cards.shares(member)) {
                return 0;
            }
            return accounts.pool * cards.stamps[member] / shared;
        }

        private void handOutKind(int kind) {
            for (int member = 0; member < cards.count; member++) {
                if (hampers.choice[member] == kind && hampers.hasOneKept(member)) {
                    handOutOne(member, kind);
                }
            }
        }

        /** A hamper goes along the row until one can pay it: each step shortens the row by one. */
        private void handOutOne(int keeper, int kind) {
            int price = hampers.price[kind];
            int member = keeper;
            for (int step = 0; step < MOST_MEMBERS && member != NONE; step++) {
                if (cards.stamps[member] >= price) {
                    cards.stamps[member] -= price;
                    accounts.payShop(price * STAMP_PENCE);
                    hampers.handOut(member, kind);
                    handedOut++;
                    return;
                }
                member = hampers.drop(member, kind);
            }
        }

        private void payMember(int member, int pence) {
            accounts.payOut(pence);
            cards.paid[member] += pence;
        }

        int tell(int what) {
            switch (what) {
                case 0: return week;
                case 1: return cards.count;
                case 2: return settled ? 1 : 0;
                case 3: return accounts.tin;
                case 4: return accounts.pool;
                case 5: return cards.allStamps();
                case 6: return accounts.cameIn;
                case 7: return accounts.paidOut;
                case 8: return accounts.toShop;
                case 9: return handedOut;
                case 10: return cards.mislaidCards();
                case 11: return cards.drawnMembers();
                case 12: return lapses;
                default: return INVALID_ARGUMENT;
            }
        }

        int tellOfMember(int member, int what) {
            if (!cards.exists(member)) {
                return INVALID_ARGUMENT;
            }
            switch (what) {
                case 0: return cards.stamps[member];
                case 1: return cards.status[member];
                case 2: return hampers.choice[member];
                case 3: return hampers.hasOneKept(member) ? 1 : 0;
                case 4: return hampers.place[member];
                case 5: return cards.drawn[member];
                case 6: return Long.bitCount(cards.goodWeeks[member]);
                case 7: return cards.rowOfGoodWeeks(member, week);
                case 8: return cards.latestGood[member];
                case 9: return cards.paid[member];
                case 10: return hampers.got[member];
                default: return INVALID_ARGUMENT;
            }
        }
    }

    private static final class Snapshot {
        boolean taken;
        final Club club = new Club();

        void copyFrom(Snapshot other) {
            taken = other.taken;
            if (taken) {
                club.copyFrom(other.club);
            }
        }
    }

    /** What the history keeps: the club and the slots. */
    private static final class State {
        final Club club = new Club();
        final Snapshot first = new Snapshot();
        final Snapshot second = new Snapshot();

        void copyFrom(State other) {
            club.copyFrom(other.club);
            first.copyFrom(other.first);
            second.copyFrom(other.second);
        }

        int snapshots() {
            return (first.taken ? 1 : 0) + (second.taken ? 1 : 0);
        }

        int takeSnapshot(int slot) {
            if (slot < 0 || slot > 1) {
                return INVALID_ARGUMENT;
            }
            Snapshot snapshot = slot == 0 ? first : second;
            snapshot.club.copyFrom(club);
            snapshot.taken = true;
            return club.week;
        }

        int restoreSnapshot(int slot) {
            if (slot < 0 || slot > 1) {
                return INVALID_ARGUMENT;
            }
            Snapshot snapshot = slot == 0 ? first : second;
            if (!snapshot.taken) {
                return ILLEGAL_STATE;
            }
            club.copyFrom(snapshot.club);
            return club.week;
        }
    }

    /**
     * The states for undo, in a ring with one frame more than states are kept: an action drafts the state
     * before it into the free frame, and only its success keeps the draft.
     */
    private static final class History {
        private static final int FRAMES = MOST_STATES + 1;
        private final State[] frames = new State[FRAMES];
        private int free;
        int size;

        History() {
            for (int frame = 0; frame < FRAMES; frame++) {
                frames[frame] = new State();
            }
        }

        void draft(State state) {
            State frame = frames[free];
            if (frame != null) {
                frame.copyFrom(state);
            }
        }

        void keepDraft() {
            free = (free + 1) % FRAMES;
            size = Math.min(size + 1, MOST_STATES);
        }

        boolean putBackLatest(State state) {
            if (size == 0) {
                return false;
            }
            free = (free + MOST_STATES) % FRAMES;
            size--;
            State latest = frames[free];
            if (latest != null) {
                state.copyFrom(latest);
            }
            return true;
        }
    }

    /** The text, and a reader that goes through its orders. */
    private static final class Orders {
        private final int[] text = new int[MOST_CHARACTERS];
        int length;
        private int at;
        private int member;
        private int sign;
        private int number;

        boolean add(int character) {
            if (length >= MOST_CHARACTERS) {
                return false;
            }
            text[length] = character;
            length++;
            return true;
        }

        int fault() {
            at = 0;
            for (int order = 0; order < MOST_CHARACTERS; order++) {
                if (!readOrder()) {
                    return at;
                }
                if (at >= length) {
                    return NO_FAULT;
                }
                if (text[at] != ';') {
                    return at;
                }
                at++;
            }
            return at;
        }

        /** For a text without a fault: between two orders there is one sign to skip. */
        int carryOutOn(Club club) {
            at = 0;
            int done = 0;
            for (int order = 0; order < MOST_CHARACTERS && at < length; order++) {
                if (!readOrder() || carryOutOrder(club) < 0) {
                    return done;
                }
                done++;
                at++;
            }
            return done;
        }

        private int carryOutOrder(Club club) {
            switch (sign) {
                case '+': return club.stickStamps(member, number);
                case '-': return club.withdrawStamps(member, number);
                case 'h': return club.chooseKind(member, number);
                case 'x': return club.giveUpChoice(member);
                case 'l': return club.mislayCard(member);
                case 'f': return club.findCard(member);
                default: return club.passWeek();
            }
        }

        /** Stops at the first character that is not allowed, which is the fault then. */
        private boolean readOrder() {
            if (next() == 'w') {
                sign = 'w';
                at++;
                return true;
            }
            member = readNumber();
            if (member == NO_NUMBER) {
                return false;
            }
            sign = next();
            boolean withNumber = sign == '+' || sign == '-' || sign == 'h';
            boolean alone = sign == 'x' || sign == 'l' || sign == 'f';
            if (!withNumber && !alone) {
                return false;
            }
            at++;
            if (alone) {
                return true;
            }
            number = readNumber();
            return number != NO_NUMBER;
        }

        private int readNumber() {
            if (!isDigit(next())) {
                return NO_NUMBER;
            }
            int value = next() - '0';
            at++;
            if (value == 0) {
                return 0;
            }
            for (int digits = 1; digits < MOST_DIGITS && isDigit(next()); digits++) {
                value = value * 10 + (next() - '0');
                at++;
            }
            return value;
        }

        private int next() {
            return at < length ? text[at] : NO_CHARACTER;
        }

        private static boolean isDigit(int character) {
            return character >= '0' && character <= '9';
        }
    }
}
