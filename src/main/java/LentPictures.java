import java.util.Arrays;

/**
 * Houses that lend each other pictures: texts are read from a tape, works are sent, days go by, and
 * questions are answered about what is, what would be, and what is in which crate.
 */
public final class LentPictures {
    public static final int NONE = -1;

    /** The second kind of "no": the things asked for exist, but the answer does not. */
    private static final int NEITHER = -2;

    private static final int HOUSES = 5;
    private static final int WORKS = 6;
    private static final int TERMS = 6;
    private static final int KINDS = 10;
    private static final int VALUES = 100;
    private static final int TAPE = 2000;
    private static final int FED = 20;
    private static final int AHEAD = 200;
    private static final int DAYS = 99;
    private static final int SLOTS = 3;
    private static final int SEEDS = 20;
    private static final int LATE_DAYS = 5;

    private static final int SYNTAX = 1;
    private static final int ROOM = 2;
    private static final int TWICE = 3;
    private static final int NAME_UNKNOWN = 4;
    private static final int WRONG = 5;

    private final byte[] tape = new byte[TAPE];
    private final Tokens tokens = new Tokens();
    private final Reader reader = new Reader(tokens);
    private final State state = new State();
    private final Past past = new Past();
    private final int[] slots = new int[SLOTS * State.CELLS];
    private final Crates crates = new Crates();
    private final Scene scene;
    private final int[] legs = new int[WORKS];
    private Told told = new Told();
    private Told spare = new Told();
    private Survey survey;
    private Ways ways;
    private boolean surveyed;
    private int heldSlots;
    private int tapeLength;
    private int faultPlace = NONE;

    public LentPictures() {
        scene = new Scene(told);
    }

    public int feed(int a, int b, int c, int d, int e) {
        if (tapeLength > TAPE - FED) {
            return NONE;
        }
        putBytes(a);
        putBytes(b);
        putBytes(c);
        putBytes(d);
        putBytes(e);
        return tapeLength;
    }

    public int back(int n) {
        if (n < 0 || n > tapeLength) {
            return NONE;
        }
        tapeLength -= n;
        return tapeLength;
    }

    public int read() {
        tokens.cut(tape, tapeLength);
        tapeLength = 0;
        int fault = reader.compile(spare);
        faultPlace = reader.faultPlace();
        if (fault == 0) {
            takeUp();
        }
        return fault;
    }

    public int place() {
        return faultPlace;
    }

    public int house(int house, int what) {
        if (!isHouse(house)) {
            return NONE;
        }
        switch (what) {
            case 0:
                return told.north[house];
            case 1:
                return told.walls[house];
            case 2:
                return worksIn(house);
            case 3:
                return worksOwnedBy(house);
            case 4:
                return pleasureOf(house);
            default:
                return NONE;
        }
    }

    public int work(int work, int what) {
        if (!isWork(work)) {
            return NONE;
        }
        boolean away = state.underWay(work);
        switch (what) {
            case 0:
                return told.owner[work];
            case 1:
                return away ? NEITHER : state.goal(work);
            case 2:
                return told.kind[work];
            case 3:
                return told.value[work];
            case 4:
                return away ? state.goal(work) : NEITHER;
            case 5:
                return away ? state.arrival(work) : NEITHER;
            case 6:
                return state.cells[State.SENT + work];
            case 7:
                return told.termsOf(work) & standing();
            default:
                return NONE;
        }
    }

    public int may(int work, int house) {
        if (!isWork(work) || !isHouse(house)) {
            return NONE;
        }
        lookToday();
        return scene.canHang(work, house, standing()) ? 1 : 0;
    }

    public int holds(int term, int house) {
        if (!isTerm(term) || !isHouse(house)) {
            return NONE;
        }
        lookToday();
        return scene.termKept(term, house) ? 1 : 0;
    }

    public int likes(int house, int work) {
        if (!isWork(work) || !isHouse(house)) {
            return NONE;
        }
        lookToday();
        return scene.liking(house, work, NONE);
    }

    public int trip(int work, int house) {
        if (!isWork(work) || !isHouse(house)) {
            return NONE;
        }
        lookToday();
        return scene.journey(work, house);
    }

    public int send(int work, int house) {
        if (!isWork(work) || !isHouse(house)) {
            return NONE;
        }
        if (!canBeSent(work, house)) {
            return NEITHER;
        }
        lookToday();
        int days = scene.journey(work, house);
        boolean late = isLate(told.seed);
        beforeChange();
        state.depart(work, house, late ? days + LATE_DAYS : days, late);
        return state.arrival(work);
    }

    public boolean lift(int term, boolean lifted) {
        if (!isTerm(term)) {
            return false;
        }
        boolean stands = (standing() >> term & 1) == 1;
        if (stands != lifted) {
            return false;
        }
        beforeChange();
        state.cells[State.LIFTED] ^= 1 << term;
        return true;
    }

    public int days(int n) {
        if (n < 0 || n > DAYS) {
            return NONE;
        }
        if (n > 0) {
            beforeChange();
            state.cells[State.DAY] += n;
        }
        return state.today();
    }

    public boolean undo() {
        if (past.size() == 0) {
            return false;
        }
        past.takeBack(state.cells);
        surveyed = false;
        return true;
    }

    public boolean well() {
        lookToday();
        return scene.allWell(standing());
    }

    public int bad() {
        int standing = standing();
        for (int ahead = 0; ahead <= AHEAD; ahead++) {
            scene.look(told, state, state.today() + ahead);
            if (!scene.allWell(standing)) {
                return ahead;
            }
        }
        return NEITHER;
    }

    public int hangings() {
        makeSurvey();
        return survey.rowsKept();
    }

    public int nearest(int work) {
        if (work != NONE && !isWork(work)) {
            return NONE;
        }
        makeSurvey();
        if (survey.rowsKept() == 0) {
            return NEITHER;
        }
        return work == NONE ? survey.fewestElsewhere() : survey.nearHouse(work);
    }

    public int quarrel(int what) {
        if (what != 0 && what != 1) {
            return NONE;
        }
        makeSurvey();
        if (survey.rowsKept() > 0) {
            return NEITHER;
        }
        int terms = survey.smallestQuarrel();
        return what == 0 ? Integer.bitCount(terms) : terms;
    }

    public int home(boolean kept) {
        makeSurvey();
        int from = 0;
        int to = 0;
        for (int work = 0; work < told.works; work++) {
            from += Survey.step(work, state.goal(work));
            to += Survey.step(work, told.owner[work]);
        }
        return ways.fewestTrips(kept ? survey.keptRows() : survey.roomyRows(), from, to, told.works);
    }

    public int swaps(int what) {
        if (what < NONE || what > 2) {
            return NONE;
        }
        lookToday();
        return swapAnswer(what);
    }

    public int backs(int i) {
        int free = housesFreeToSendBack();
        int rests = 1 << Integer.bitCount(free);
        if (i == NONE) {
            return rests;
        }
        return i < 0 || i >= rests ? NONE : subsetOf(free, i);
    }

    public int soonest() {
        lookToday();
        int jobs = 0;
        for (int work = 0; work < told.works; work++) {
            if (state.goal(work) != told.owner[work]) {
                legs[jobs] = scene.journey(work, told.owner[work]);
                jobs++;
            }
        }
        return shareOut(jobs - 1, 0, 0, 0);
    }

    public int then(int work, int n) {
        if (!isWork(work) || n < 0 || n > AHEAD) {
            return NONE;
        }
        return state.arrival(work) <= state.today() + n ? state.goal(work) : NEITHER;
    }

    public int times(int work, int house, int n, int s) {
        if (!isWork(work) || !isHouse(house) || n < 0 || n > AHEAD || s < 1 || s > SEEDS) {
            return NONE;
        }
        if (!canBeSent(work, house)) {
            return NEITHER;
        }
        lookToday();
        int days = scene.journey(work, house);
        int there = 0;
        for (int i = 0; i < s; i++) {
            int needed = isLate(told.seed + i) ? days + LATE_DAYS : days;
            if (needed <= n) {
                there++;
            }
        }
        return there;
    }

    public int owes(int house, int other) {
        if (!isHouse(house) || !isHouse(other) || house == other) {
            return NONE;
        }
        int bits = 0;
        for (int work = 0; work < told.works; work++) {
            if (told.owner[work] == other && state.goal(work) == house) {
                bits |= 1 << work;
            }
        }
        return bits;
    }

    public int richest(boolean all) {
        int best = NEITHER;
        int most = NEITHER;
        for (int house = 0; house < told.houses; house++) {
            int riches = valueIn(house);
            if (riches > most) {
                best = house;
                most = riches;
            }
        }
        return all ? most : best;
    }

    public int lent(int house, int other) {
        if (!isHouse(house) || !isHouse(other) || house == other) {
            return NONE;
        }
        return state.cells[State.LENT + house * HOUSES + other];
    }

    public int list(int crate, int by, int is) {
        if (!isWork(crate) || is < 0 || is >= limitOf(by)) {
            return NONE;
        }
        return crates.addList(crate, by, is);
    }

    public int forget() {
        int lists = crates.size();
        crates.empty();
        return lists;
    }

    public int fits(int k, int w) {
        if (!isKnown(k) || w < 0 || w > Crates.LISTS) {
            return NONE;
        }
        crates.goThrough(told, k);
        return crates.waysWith(w);
    }

    public int least(int k) {
        if (!isKnown(k)) {
            return NONE;
        }
        crates.goThrough(told, k);
        return crates.fewestWrong();
    }

    public int sure(int k, int crate) {
        if (!isKnown(k) || !isWork(crate)) {
            return NONE;
        }
        crates.goThrough(told, k);
        int could = crates.couldHave(crate);
        return Integer.bitCount(could) == 1 ? Integer.numberOfTrailingZeros(could) : NEITHER;
    }

    public boolean hold(int slot) {
        if (slot < 0 || slot >= SLOTS) {
            return false;
        }
        System.arraycopy(state.cells, 0, slots, slot * State.CELLS, State.CELLS);
        heldSlots |= 1 << slot;
        return true;
    }

    public boolean restore(int slot) {
        if (slot < 0 || slot >= SLOTS || (heldSlots >> slot & 1) == 0) {
            return false;
        }
        System.arraycopy(slots, slot * State.CELLS, state.cells, 0, State.CELLS);
        past.empty();
        surveyed = false;
        return true;
    }

    public int count(int what) {
        switch (what) {
            case 0:
                return told.houses;
            case 1:
                return told.works;
            case 2:
                return told.terms;
            case 3:
                return state.today();
            case 4:
                return state.tripsSoFar();
            case 5:
                return worksUnderWay();
            case 6:
                return worksAtOwners();
            case 7:
                return standing();
            case 8:
                return tapeLength;
            case 9:
                return past.size();
            case 10:
                return crates.size();
            case 11:
                return Integer.bitCount(heldSlots);
            case 12:
                return state.cells[State.LATES];
            default:
                return NONE;
        }
    }

    private boolean isHouse(int house) {
        return house >= 0 && house < told.houses;
    }

    private boolean isWork(int work) {
        return work >= 0 && work < told.works;
    }

    private boolean isTerm(int term) {
        return term >= 0 && term < told.terms;
    }

    private boolean isKnown(int k) {
        return k >= 0 && k <= crates.size();
    }

    /** What a list may tell is less than this; 0 where there is no such sort of list. */
    private int limitOf(int by) {
        switch (by) {
            case Crates.BY_KIND:
                return KINDS;
            case Crates.BY_VALUE:
                return VALUES;
            case Crates.BY_OWNER:
                return told.houses;
            default:
                return 0;
        }
    }

    private void putBytes(int four) {
        for (int shift = 24; shift >= 0; shift -= 8) {
            if (tapeLength < TAPE) {
                tape[tapeLength] = (byte) (four >> shift);
                tapeLength++;
            }
        }
    }

    /** The text that has just been read takes the place of the one ahead. */
    private void takeUp() {
        Told ahead = told;
        told = spare;
        spare = ahead;
        state.begin(told);
        past.empty();
        crates.empty();
        heldSlots = 0;
        surveyed = false;
    }

    private int standing() {
        return (1 << told.terms) - 1 & ~state.cells[State.LIFTED];
    }

    private void lookToday() {
        scene.look(told, state, state.today());
    }

    /** Every thing done goes through here, so that it can be undone and no old survey is kept. */
    private void beforeChange() {
        past.keep(state.cells);
        surveyed = false;
    }

    private void makeSurvey() {
        if (survey == null || ways == null) {
            survey = new Survey(scene);
            ways = new Ways();
            surveyed = false;
        }
        if (!surveyed) {
            lookToday();
            survey.make(told, standing());
            surveyed = true;
        }
    }

    private boolean canBeSent(int work, int house) {
        return !state.underWay(work) && state.goal(work) != house;
    }

    private boolean isLate(int seed) {
        return lotOf100(seed, 8 * state.tripsSoFar()) < told.late;
    }

    private static int lotOf100(int seed, int which) {
        int h = stir(stir(seed, 83), which);
        return (h >>> 1) % 100;
    }

    private static int stir(int h, int it) {
        int stirred = (h ^ it) * 1103515245 + 12345;
        return stirred ^ stirred >>> 15;
    }

    private int worksIn(int house) {
        int bits = 0;
        for (int work = 0; work < told.works; work++) {
            if (state.isIn(work, house)) {
                bits |= 1 << work;
            }
        }
        return bits;
    }

    private int worksOwnedBy(int house) {
        int bits = 0;
        for (int work = 0; work < told.works; work++) {
            if (told.owner[work] == house) {
                bits |= 1 << work;
            }
        }
        return bits;
    }

    private int worksUnderWay() {
        int bits = 0;
        for (int work = 0; work < told.works; work++) {
            if (state.underWay(work)) {
                bits |= 1 << work;
            }
        }
        return bits;
    }

    private int worksAtOwners() {
        int bits = 0;
        for (int work = 0; work < told.works; work++) {
            if (state.isIn(work, told.owner[work])) {
                bits |= 1 << work;
            }
        }
        return bits;
    }

    private int valueIn(int house) {
        int riches = 0;
        for (int work = 0; work < told.works; work++) {
            if (state.isIn(work, house)) {
                riches += told.value[work];
            }
        }
        return riches;
    }

    private int pleasureOf(int house) {
        lookToday();
        int pleasure = 0;
        for (int work = 0; work < told.works; work++) {
            if (state.isIn(work, house)) {
                pleasure += scene.liking(house, work, NONE);
            }
        }
        return pleasure;
    }

    private int swapAnswer(int what) {
        int swaps = 0;
        int most = 0;
        int first = NEITHER;
        int second = NEITHER;
        for (int one = 0; one < told.works; one++) {
            for (int other = one + 1; other < told.works; other++) {
                int gains = gainsOfSwap(one, other);
                if (gains > 0) {
                    swaps++;
                }
                if (gains > most) {
                    most = gains;
                    first = one;
                    second = other;
                }
            }
        }
        if (what == NONE) {
            return swaps;
        }
        if (swaps == 0) {
            return NEITHER;
        }
        return what == 0 ? first : what == 1 ? second : most;
    }

    /** Both gains together, or 0 if the exchange is not good for both. */
    private int gainsOfSwap(int one, int other) {
        if (state.underWay(one) || state.underWay(other) || state.goal(one) == state.goal(other)) {
            return 0;
        }
        int gain = gainOf(state.goal(one), one, other);
        int gainThere = gainOf(state.goal(other), other, one);
        return gain > 0 && gainThere > 0 ? gain + gainThere : 0;
    }

    private int gainOf(int house, int given, int got) {
        return scene.liking(house, got, given) - scene.liking(house, given, NONE);
    }

    /**
     * What a house gets back does not depend on what it does itself, so a set rests just when each
     * house in it likes nothing of what it sends; a house outside it never gains by sending.
     */
    private int housesFreeToSendBack() {
        lookToday();
        int free = (1 << told.houses) - 1;
        for (int work = 0; work < told.works; work++) {
            int house = state.goal(work);
            if (house != told.owner[work] && scene.likingAlone(house, work) > 0) {
                free &= ~(1 << house);
            }
        }
        return free;
    }

    /** The i-th of a set's subsets, by their bits: those of i, spread over the set's. */
    private static int subsetOf(int set, int i) {
        int subset = 0;
        int rest = i;
        for (int bit = 0; bit < HOUSES; bit++) {
            if ((set >> bit & 1) == 1) {
                subset |= (rest & 1) << bit;
                rest >>= 1;
            }
        }
        return subset;
    }

    /** The fewest days if jobs 0 .. job are still to be given to couriers who are busy so long. */
    private int shareOut(int job, int a, int b, int c) {
        if (job < 0 || job >= WORKS) {
            return Math.max(a, Math.max(b, c));
        }
        int days = legs[job];
        int best = shareOut(job - 1, a + days, b, c);
        if (told.couriers > 1) {
            best = Math.min(best, shareOut(job - 1, a, b + days, c));
        }
        if (told.couriers > 2) {
            best = Math.min(best, shareOut(job - 1, a, b, c + days));
        }
        return best;
    }

    /** What a text tells; its sums stand one behind the other in one code. */
    private static final class Told {
        static final int CODE = 408;
        static final int ARGUMENT_BITS = 14;
        static final int ARGUMENTS = (1 << ARGUMENT_BITS) - 1;
        static final int NUMBER = 0;
        static final int VARIABLE = 1;
        static final int ADD = 2;
        static final int SUBTRACT = 3;
        static final int MULTIPLY = 4;
        static final int DIVIDE = 5;
        /** Goes on at its argument unless the one is less than the other. */
        static final int UNLESS_LESS = 6;
        static final int END = 7;

        final int[] north = new int[HOUSES];
        final int[] walls = new int[HOUSES];
        final int[] owner = new int[WORKS];
        final int[] start = new int[WORKS];
        final int[] kind = new int[WORKS];
        final int[] value = new int[WORKS];
        final int[] termWork = new int[TERMS];
        final int[] termLess = new int[TERMS];
        final int[] termMore = new int[TERMS];
        final int[] code = new int[CODE];
        int codeLength;
        int houses;
        int works;
        int terms;
        int tripLaw;
        int likesLaw;
        int late;
        int couriers;
        int seed;

        Told() {
            clear();
        }

        void clear() {
            houses = 0;
            works = 0;
            terms = 0;
            late = 0;
            couriers = 1;
            seed = 0;
            codeLength = 0;
            tripLaw = codeLength;
            put(NUMBER, 3);
            put(END, 0);
            likesLaw = codeLength;
            put(VARIABLE, Sum.VALUE);
            put(END, 0);
        }

        void put(int operation, int argument) {
            if (codeLength < CODE) {
                code[codeLength] = operation << ARGUMENT_BITS | argument & ARGUMENTS;
                codeLength++;
            }
        }

        void putGoal(int at) {
            if (at >= 0 && at < codeLength) {
                code[at] = UNLESS_LESS << ARGUMENT_BITS | codeLength & ARGUMENTS;
            }
        }

        int termsOf(int work) {
            int bits = 0;
            for (int term = 0; term < terms; term++) {
                if (termWork[term] == work) {
                    bits |= 1 << term;
                }
            }
            return bits;
        }
    }

    /** The tokens of a text: each has a sort, a place, and what it is worth (a number, a name). */
    private static final class Tokens {
        /** One more than a text may have, so that the one too many can be told. */
        static final int KEPT = 401;
        static final int AT_END = 0;
        static final int NO_TOKEN = 1;
        static final int NAME = 2;
        static final int INT = 3;
        /** Signs have their own byte as their sort; words come behind all bytes. */
        static final int HOUSE = 256;
        static final int WORK = 257;
        static final int TERM = 258;
        static final int TRIP = 259;
        static final int LIKES = 260;
        static final int LATE = 261;
        static final int COURIERS = 262;
        static final int SEED = 263;
        static final int IF = 264;
        static final int THEN = 265;
        static final int ELSE = 266;
        static final int FIRST_VARIABLE = 267;
        private static final int WORDS = 20;
        private static final int LETTERS = 8;
        private static final int DIGITS = 4;
        private static final String SIGNS = ";=+-*/<()";
        /** In the order of their sorts, the variables in that of Sum; a blank behind each. */
        private static final String ALL_WORDS = "house work term trip likes late couriers seed if then else north walls kind value many same home which day ";

        private final int[] sorts = new int[KEPT + 1];
        private final int[] places = new int[KEPT + 1];
        private final long[] worths = new long[KEPT + 1];
        private final long[] words = new long[WORDS];
        private int size;

        Tokens() {
            int word = 0;
            for (int i = 0; i < ALL_WORDS.length() && word < WORDS; i++) {
                char c = ALL_WORDS.charAt(i);
                if (c == ' ') {
                    word++;
                } else {
                    words[word] = withLetter(words[word], c);
                }
            }
        }

        int sortAt(int i) {
            return i >= 0 && i < size ? sorts[i] : AT_END;
        }

        int placeAt(int i) {
            return i >= 0 && i < size ? places[i] : NONE;
        }

        long worthAt(int i) {
            return i >= 0 && i < size ? worths[i] : 0;
        }

        void cut(byte[] text, int length) {
            size = 0;
            int at = 0;
            for (int i = 0; i < length && at < length && size < KEPT; i++) {
                int c = text[at] & 255;
                if (isBlank(c)) {
                    at++;
                } else if (isLetter(c)) {
                    at = cutWord(text, length, at);
                } else if (isDigit(c)) {
                    at = cutNumber(text, length, at);
                } else {
                    add(SIGNS.indexOf((char) c) >= 0 ? c : NO_TOKEN, at, 0);
                    at++;
                }
            }
            add(AT_END, length, 0);
        }

        private int cutWord(byte[] text, int length, int from) {
            long name = 0;
            int at = from;
            while (at < length && isLetter(text[at] & 255)) {
                if (at - from < LETTERS) {
                    name = withLetter(name, (char) (text[at] & 255));
                }
                at++;
            }
            add(at - from > LETTERS ? NO_TOKEN : sortOf(name), from, name);
            return at;
        }

        private int cutNumber(byte[] text, int length, int from) {
            int number = 0;
            int at = from;
            while (at < length && isDigit(text[at] & 255)) {
                if (at - from < DIGITS) {
                    number = number * 10 + (text[at] - '0');
                }
                at++;
            }
            add(at - from > DIGITS ? NO_TOKEN : INT, from, number);
            return at;
        }

        private void add(int sort, int place, long worth) {
            if (size <= KEPT) {
                sorts[size] = sort;
                places[size] = place;
                worths[size] = worth;
                size++;
            }
        }

        private int sortOf(long name) {
            for (int word = 0; word < WORDS; word++) {
                if (words[word] == name) {
                    return HOUSE + word;
                }
            }
            return NAME;
        }

        /** Names are numbers of 5 bits a letter, so that two of them are compared at once. */
        private static long withLetter(long name, char letter) {
            return name * 32 + (letter - 'a' + 1);
        }

        private static boolean isBlank(int c) {
            return c == 9 || c == 10 || c == 13 || c == 32;
        }

        private static boolean isLetter(int c) {
            return c >= 'a' && c <= 'z';
        }

        private static boolean isDigit(int c) {
            return c >= '0' && c <= '9';
        }
    }

    /**
     * Reads tokens into what they tell. A fault of syntax or room ends the reading; another one is
     * only noted, since one of syntax or room anywhere behind it comes ahead of it.
     */
    private static final class Reader {
        private static final int MOST_TOKENS = 400;
        private static final int MOST_IFS = 4;
        private static final int MOST_OPEN = 6;

        private final Tokens tokens;
        private final long[] houseNames = new long[HOUSES];
        private final long[] workNames = new long[WORKS];
        private Told told;
        private int at;
        private int fault;
        private int place;
        private int noted;
        private int notedPlace;

        Reader(Tokens tokens) {
            this.tokens = tokens;
        }

        int faultPlace() {
            return place;
        }

        int compile(Told into) {
            told = into;
            told.clear();
            at = 0;
            fault = 0;
            noted = 0;
            notedPlace = NONE;
            for (int i = 0; i <= MOST_TOKENS && fault == 0 && sort() != Tokens.AT_END; i++) {
                switch (sort()) {
                    case Tokens.HOUSE:
                        tellHouse();
                        break;
                    case Tokens.WORK:
                        tellWork();
                        break;
                    case Tokens.TERM:
                        tellTerm();
                        break;
                    case Tokens.TRIP:
                        told.tripLaw = law();
                        break;
                    case Tokens.LIKES:
                        told.likesLaw = law();
                        break;
                    case Tokens.LATE:
                        told.late = onlyNumber(0, 100);
                        break;
                    case Tokens.COURIERS:
                        told.couriers = onlyNumber(1, 3);
                        break;
                    case Tokens.SEED:
                        told.seed = onlyNumber(0, 9999);
                        break;
                    default:
                        fail(SYNTAX);
                        break;
                }
            }
            if (fault == 0) {
                fault = noted;
                place = notedPlace;
            } else {
                place = tokens.placeAt(at);
            }
            return fault;
        }

        private void tellHouse() {
            int house = told.houses;
            if (house >= HOUSES) {
                fail(ROOM);
                return;
            }
            take();
            houseNames[house] = newName();
            told.north[house] = number(0, 9);
            told.walls[house] = number(0, 9);
            expect(';');
            told.houses++;
        }

        private void tellWork() {
            int work = told.works;
            if (work >= WORKS) {
                fail(ROOM);
                return;
            }
            take();
            workNames[work] = newName();
            told.owner[work] = toldName(houseNames, told.houses);
            told.start[work] = toldName(houseNames, told.houses);
            told.kind[work] = number(0, KINDS - 1);
            told.value[work] = number(0, VALUES - 1);
            expect(';');
            told.works++;
        }

        private void tellTerm() {
            int term = told.terms;
            if (term >= TERMS) {
                fail(ROOM);
                return;
            }
            take();
            told.termWork[term] = toldName(workNames, told.works);
            told.termLess[term] = told.codeLength;
            sum(0);
            told.put(Told.END, 0);
            expect('<');
            told.termMore[term] = told.codeLength;
            sum(0);
            told.put(Told.END, 0);
            expect(';');
            told.terms++;
        }

        private int onlyNumber(int low, int high) {
            take();
            int number = number(low, high);
            expect(';');
            return number;
        }

        private int law() {
            int start = told.codeLength;
            take();
            expect('=');
            for (int ifs = 0; ifs <= MOST_IFS && fault == 0 && sort() == Tokens.IF; ifs++) {
                if (ifs == MOST_IFS) {
                    fail(ROOM);
                }
                take();
                sum(0);
                expect('<');
                sum(0);
                int test = told.codeLength;
                told.put(Told.UNLESS_LESS, 0);
                expect(Tokens.THEN);
                sum(0);
                told.put(Told.END, 0);
                expect(Tokens.ELSE);
                told.putGoal(test);
            }
            sum(0);
            told.put(Told.END, 0);
            expect(';');
            return start;
        }

        private void sum(int open) {
            product(open);
            for (int i = 0; i <= MOST_TOKENS && fault == 0; i++) {
                int sort = sort();
                if (sort != '+' && sort != '-') {
                    return;
                }
                take();
                product(open);
                told.put(sort == '+' ? Told.ADD : Told.SUBTRACT, 0);
            }
        }

        private void product(int open) {
            unit(open);
            for (int i = 0; i <= MOST_TOKENS && fault == 0; i++) {
                int sort = sort();
                if (sort != '*' && sort != '/') {
                    return;
                }
                take();
                unit(open);
                told.put(sort == '*' ? Told.MULTIPLY : Told.DIVIDE, 0);
            }
        }

        private void unit(int open) {
            int sort = sort();
            if (sort == Tokens.INT) {
                told.put(Told.NUMBER, (int) tokens.worthAt(at));
                take();
            } else if (sort >= Tokens.FIRST_VARIABLE) {
                told.put(Told.VARIABLE, sort - Tokens.FIRST_VARIABLE);
                take();
            } else if (sort != '(') {
                fail(SYNTAX);
            } else if (open >= MOST_OPEN) {
                fail(ROOM);
            } else if (fault == 0) {
                take();
                sum(open + 1);
                expect(')');
            }
        }

        private int number(int low, int high) {
            int number = (int) tokens.worthAt(at);
            if (sort() == Tokens.INT && (number < low || number > high)) {
                note(WRONG);
            }
            expect(Tokens.INT);
            return number;
        }

        private long newName() {
            long name = tokens.worthAt(at);
            if (find(name, houseNames, told.houses) != NONE || find(name, workNames, told.works) != NONE) {
                note(TWICE);
            }
            expect(Tokens.NAME);
            return name;
        }

        private int toldName(long[] names, int size) {
            int found = find(tokens.worthAt(at), names, size);
            if (found == NONE) {
                note(NAME_UNKNOWN);
            }
            expect(Tokens.NAME);
            return Math.max(found, 0);
        }

        private static int find(long name, long[] names, int size) {
            for (int i = 0; i < size && i < names.length; i++) {
                if (names[i] == name) {
                    return i;
                }
            }
            return NONE;
        }

        private int sort() {
            return tokens.sortAt(at);
        }

        private void expect(int sort) {
            if (sort() == sort) {
                take();
            } else {
                fail(SYNTAX);
            }
        }

        private void take() {
            if (fault != 0) {
                return;
            }
            if (at < MOST_TOKENS) {
                at++;
            } else {
                fault = ROOM;
            }
        }

        /** Nothing is taken behind a fault, so that its place is that of the token at hand. */
        private void fail(int kind) {
            if (fault == 0) {
                fault = kind;
            }
        }

        private void note(int kind) {
            if (fault == 0 && noted == 0) {
                noted = kind;
                notedPlace = tokens.placeAt(at);
            }
        }
    }

    /** All that goes on, in one row of numbers, so that it is held and undone by copying it. */
    private static final class State {
        static final int DAY = 0;
        static final int TRIPS = 1;
        static final int LATES = 2;
        static final int LIFTED = 3;
        /** Where each work is, or goes. */
        static final int GOAL = 4;
        /** From which day on each work is there. */
        static final int ARRIVAL = GOAL + WORKS;
        static final int SENT = ARRIVAL + WORKS;
        static final int LENT = SENT + WORKS;
        static final int CELLS = LENT + HOUSES * HOUSES;

        final int[] cells = new int[CELLS];

        void begin(Told told) {
            Arrays.fill(cells, 0);
            for (int work = 0; work < told.works; work++) {
                cells[GOAL + work] = told.start[work];
            }
        }

        int today() {
            return cells[DAY];
        }

        int tripsSoFar() {
            return cells[TRIPS];
        }

        int goal(int work) {
            return cells[GOAL + work];
        }

        int arrival(int work) {
            return cells[ARRIVAL + work];
        }

        boolean underWay(int work) {
            return arrival(work) > today();
        }

        boolean isIn(int work, int house) {
            return goal(work) == house && !underWay(work);
        }

        void depart(int work, int house, int days, boolean late) {
            cells[LENT + goal(work) * HOUSES + house]++;
            cells[GOAL + work] = house;
            cells[ARRIVAL + work] = today() + days;
            cells[SENT + work]++;
            cells[TRIPS]++;
            if (late) {
                cells[LATES]++;
            }
        }
    }

    /** The states ahead of the last things done; the oldest one gives way to the newest. */
    private static final class Past {
        private static final int MOST = 40;

        private final int[] rows = new int[MOST * State.CELLS];
        private int next;
        private int size;

        int size() {
            return size;
        }

        void empty() {
            size = 0;
        }

        void keep(int[] cells) {
            System.arraycopy(cells, 0, rows, next * State.CELLS, State.CELLS);
            next = (next + 1) % MOST;
            size = Math.min(size + 1, MOST);
        }

        void takeBack(int[] cells) {
            if (size > 0) {
                next = (next + MOST - 1) % MOST;
                size--;
                System.arraycopy(rows, next * State.CELLS, cells, 0, State.CELLS);
            }
        }
    }

    /** Goes through a code, for what the variables are set to. */
    private static final class Sum {
        static final int NORTH = 0;
        static final int WALLS = 1;
        static final int KIND = 2;
        static final int VALUE = 3;
        static final int MANY = 4;
        static final int SAME = 5;
        static final int HOME = 6;
        static final int WHICH = 7;
        static final int DAY = 8;
        private static final int VARIABLES = 9;
        /** Six brackets within one another leave two numbers waiting each; this is well above. */
        private static final int STACK = 24;

        final int[] variables = new int[VARIABLES];
        private final int[] stack = new int[STACK];

        /** What the code comes to from a place on; 0 if something on the way is divided by 0. */
        int goThrough(Told told, int from) {
            int at = from;
            int top = 0;
            for (int steps = 0; steps < Told.CODE && at >= 0 && at < told.codeLength; steps++) {
                int operation = told.code[at] >> Told.ARGUMENT_BITS;
                int argument = told.code[at] & Told.ARGUMENTS;
                at++;
                if (operation == Told.END) {
                    return top > 0 ? stack[top - 1] : 0;
                }
                if (operation == Told.NUMBER || operation == Told.VARIABLE) {
                    if (top >= STACK || operation == Told.VARIABLE && argument >= VARIABLES) {
                        return 0;
                    }
                    stack[top] = operation == Told.NUMBER ? argument : variables[argument];
                    top++;
                    continue;
                }
                if (top < 2) {
                    return 0;
                }
                top--;
                int left = stack[top - 1];
                int right = stack[top];
                if (operation == Told.ADD) {
                    stack[top - 1] = left + right;
                } else if (operation == Told.SUBTRACT) {
                    stack[top - 1] = left - right;
                } else if (operation == Told.MULTIPLY) {
                    stack[top - 1] = left * right;
                } else if (operation == Told.UNLESS_LESS) {
                    top--;
                    at = left < right ? at : argument;
                } else if (right != 0) {
                    stack[top - 1] = left / right;
                } else {
                    return 0;
                }
            }
            return 0;
        }
    }

    /** Where the works are on a day, and what the laws and terms come to there. */
    private static final class Scene {
        private final Sum sum = new Sum();
        /** The house in which each work is; NONE: it is under way. */
        private final int[] spots = new int[WORKS];
        private Told told;

        Scene(Told told) {
            this.told = told;
        }

        void look(Told newest, State state, int day) {
            told = newest;
            sum.variables[Sum.DAY] = day;
            for (int work = 0; work < told.works; work++) {
                spots[work] = state.arrival(work) <= day ? state.goal(work) : NONE;
            }
        }

        int spot(int work) {
            return spots[work];
        }

        /** Sets the variables for a work in a house, among the works there but for the one without. */
        private void enter(int work, int house, int without) {
            int many = 0;
            int same = 0;
            for (int other = 0; other < told.works; other++) {
                if (spots[other] == house && other != work && other != without) {
                    many++;
                    if (told.kind[other] == told.kind[work]) {
                        same++;
                    }
                }
            }
            enterAmong(work, house, many, same);
        }

        void enterAmong(int work, int house, int many, int same) {
            int[] variables = sum.variables;
            variables[Sum.NORTH] = told.north[house];
            variables[Sum.WALLS] = told.walls[house];
            variables[Sum.KIND] = told.kind[work];
            variables[Sum.VALUE] = told.value[work];
            variables[Sum.MANY] = many;
            variables[Sum.SAME] = same;
            variables[Sum.HOME] = told.owner[work] == house ? 1 : 0;
            variables[Sum.WHICH] = house;
        }

        private boolean keptAsEntered(int term) {
            return sum.goThrough(told, told.termLess[term]) < sum.goThrough(told, told.termMore[term]);
        }

        /** Which of some terms do not hold. */
        int brokenAsEntered(int terms) {
            int broken = 0;
            for (int term = 0; term < told.terms; term++) {
                if ((terms >> term & 1) == 1 && !keptAsEntered(term)) {
                    broken |= 1 << term;
                }
            }
            return broken;
        }

        boolean termKept(int term, int house) {
            enter(told.termWork[term], house, NONE);
            return keptAsEntered(term);
        }

        boolean canHang(int work, int house, int standing) {
            enter(work, house, NONE);
            return sum.variables[Sum.MANY] < told.walls[house]
                && brokenAsEntered(told.termsOf(work) & standing) == 0;
        }

        boolean allWell(int standing) {
            for (int work = 0; work < told.works; work++) {
                if (spots[work] != NONE && !canHang(work, spots[work], standing)) {
                    return false;
                }
            }
            return true;
        }

        int liking(int house, int work, int without) {
            enter(work, house, without);
            return likingAsEntered();
        }

        int likingAlone(int house, int work) {
            enterAmong(work, house, 0, 0);
            return likingAsEntered();
        }

        private int likingAsEntered() {
            return Math.max(0, Math.min(99, sum.goThrough(told, told.likesLaw)));
        }

        int journey(int work, int house) {
            enterAmong(work, house, 0, 0);
            return Math.max(1, Math.min(99, sum.goThrough(told, told.tripLaw)));
        }
    }

    /**
     * All rows of houses for the works. A set of rows is kept as bits: works 0 and 1 choose a bit of
     * a long (work 0 within a byte, work 1 the byte), the others choose which long.
     */
    private static final class Survey {
        static final int LONGS = 625;
        private static final int[] STEPS = {1, 8, 64, 320, 1600, 8000};

        private final Scene scene;
        private final long[] roomy = new long[LONGS];
        private final long[] kept = new long[LONGS];
        /** For each work, house, number of others, number of these of its kind: terms that break. */
        private final int[] broken = new int[WORKS * HOUSES * WORKS * WORKS];
        private final int[] row = new int[WORKS];
        private final int[] near = new int[WORKS];
        private final int[] many = new int[HOUSES];
        private final int[] ofKind = new int[HOUSES * KINDS];
        /** The works with terms that stand: no other one can break any. */
        private final int[] bound = new int[WORKS];
        private int boundSize;
        private Told told;
        private int standing;
        /** Which sets of terms break in some row with room for all: bit n for the set n. */
        private long breaks;
        private int keptSize;
        private int elsewhere;

        Survey(Scene scene) {
            this.scene = scene;
            this.told = scene.told;
        }

        /** How much further on a row stands if a work is in a house. */
        static int step(int work, int house) {
            return work >= 0 && work < WORKS ? STEPS[work] * house : 0;
        }

        long[] roomyRows() {
            return roomy;
        }

        long[] keptRows() {
            return kept;
        }

        int rowsKept() {
            return keptSize;
        }

        int fewestElsewhere() {
            return elsewhere;
        }

        int nearHouse(int work) {
            return near[work];
        }

        void make(Told newest, int allStanding) {
            told = newest;
            standing = allStanding;
            Arrays.fill(roomy, 0);
            Arrays.fill(kept, 0);
            breaks = 0;
            keptSize = 0;
            elsewhere = WORKS + 1;
            boundSize = 0;
            for (int work = 0; work < told.works; work++) {
                int terms = told.termsOf(work) & standing;
                if (terms != 0) {
                    bound[boundSize] = work;
                    boundSize++;
                    fillBroken(work, terms);
                }
            }
            hang(0, 0, 0);
        }

        private void fillBroken(int work, int terms) {
            int alike = 0;
            for (int other = 0; other < told.works; other++) {
                if (other != work && told.kind[other] == told.kind[work]) {
                    alike++;
                }
            }
            for (int house = 0; house < told.houses; house++) {
                int room = Math.min(told.works, told.walls[house]);
                for (int others = 0; others < room; others++) {
                    for (int same = 0; same <= Math.min(alike, others); same++) {
                        scene.enterAmong(work, house, others, same);
                        broken[brokenAt(work, house, others, same)] = scene.brokenAsEntered(terms);
                    }
                }
            }
        }

        private static int brokenAt(int work, int house, int others, int same) {
            return ((work * HOUSES + house) * WORKS + others) * WORKS + same;
        }

        private void hang(int work, int at, int away) {
            if (work >= told.works || work >= WORKS) {
                keepRow(at, away);
                return;
            }
            int kind = told.kind[work];
            for (int house = 0; house < told.houses; house++) {
                if (many[house] < told.walls[house]) {
                    row[work] = house;
                    many[house]++;
                    ofKind[house * KINDS + kind]++;
                    hang(work + 1, at + STEPS[work] * house, scene.spot(work) == house ? away : away + 1);
                    many[house]--;
                    ofKind[house * KINDS + kind]--;
                }
            }
        }

        private void keepRow(int at, int away) {
            int brokenTerms = brokenInRow();
            breaks |= 1L << brokenTerms;
            int index = at >> 6;
            if (index < 0 || index >= LONGS) {
                return;
            }
            long bit = 1L << (at & 63);
            roomy[index] |= bit;
            if (brokenTerms != 0) {
                return;
            }
            kept[index] |= bit;
            keptSize++;
            if (away < elsewhere) {
                elsewhere = away;
                System.arraycopy(row, 0, near, 0, WORKS);
            }
        }

        private int brokenInRow() {
            int bits = 0;
            for (int i = 0; i < boundSize; i++) {
                int work = bound[i];
                int house = row[work];
                int same = ofKind[house * KINDS + told.kind[work]] - 1;
                bits |= broken[brokenAt(work, house, many[house] - 1, same)];
            }
            return bits;
        }

        /** Some terms can be kept if there is a row in which none of them breaks. */
        private boolean canKeep(int terms) {
            for (int set = 0; set < 1 << TERMS; set++) {
                if ((breaks >> set & 1) == 1 && (set & terms) == 0) {
                    return true;
                }
            }
            return false;
        }

        int smallestQuarrel() {
            int best = standing;
            for (int terms = (1 << TERMS) - 1; terms >= 0; terms--) {
                boolean asFew = Integer.bitCount(terms) <= Integer.bitCount(best);
                if ((terms & ~standing) == 0 && asFew && !canKeep(terms)) {
                    best = terms;
                }
            }
            return best;
        }
    }

    /** Goes from one row to another, all rows that so many trips reach at once. */
    private static final class Ways {
        private static final long FIRST_OF_BYTES = 0x0101010101010101L;
        private static final long FIVE_BYTES = 0x0101010101L;

        private final long[] edge = new long[Survey.LONGS];
        private final long[] next = new long[Survey.LONGS];
        private final long[] reached = new long[Survey.LONGS];

        int fewestTrips(long[] allowed, int from, int to, int works) {
            if (from == to) {
                return 0;
            }
            int start = from >> 6;
            int goal = to >> 6;
            boolean inside = start >= 0 && start < Survey.LONGS && goal >= 0 && goal < Survey.LONGS;
            if (!inside || (allowed[goal] >> (to & 63) & 1) == 0) {
                return NEITHER;
            }
            Arrays.fill(edge, 0);
            Arrays.fill(reached, 0);
            edge[start] = 1L << (from & 63);
            reached[start] = edge[start];
            int longs = 1;
            for (int work = 2; work < works && work < WORKS; work++) {
                longs *= HOUSES;
            }
            for (int trips = 1; trips <= Survey.LONGS * 64; trips++) {
                if (!goOneTrip(allowed, longs)) {
                    return NEITHER;
                }
                if ((edge[goal] >> (to & 63) & 1) == 1) {
                    return trips;
                }
            }
            return NEITHER;
        }

        /** Whether there are rows that are reached by one trip more and by none less. */
        private boolean goOneTrip(long[] allowed, int longs) {
            for (int i = 0; i < longs; i++) {
                next[i] = edge[i] == 0 ? 0 : moveFirst(edge[i]) | moveSecond(edge[i]);
            }
            for (int stride = 1; stride < longs; stride *= HOUSES) {
                moveOther(stride, longs);
            }
            long any = 0;
            for (int i = 0; i < longs; i++) {
                long fresh = next[i] & allowed[i] & ~reached[i];
                edge[i] = fresh;
                reached[i] |= fresh;
                any |= fresh;
            }
            return any != 0;
        }

        /** Work 0 goes anywhere: what is in a byte comes to all five of its first bits. */
        private static long moveFirst(long rows) {
            long any = rows | rows >>> 1 | rows >>> 2 | rows >>> 3 | rows >>> 4;
            return (any & FIRST_OF_BYTES) * 31;
        }

        /** Work 1 goes anywhere: what is in any byte comes to all five. */
        private static long moveSecond(long rows) {
            long any = rows | rows >>> 8 | rows >>> 16 | rows >>> 24 | rows >>> 32;
            return (any & 255) * FIVE_BYTES;
        }

        private void moveOther(int stride, int longs) {
            for (int block = 0; block + HOUSES * stride <= longs; block += HOUSES * stride) {
                for (int i = block; i < block + stride; i++) {
                    long any = 0;
                    for (int house = 0; house < HOUSES; house++) {
                        any |= edge[i + house * stride];
                    }
                    for (int house = 0; house < HOUSES && any != 0; house++) {
                        next[i + house * stride] |= any;
                    }
                }
            }
        }
    }

    /** The lists, and the ways in which crates have works. */
    private static final class Crates {
        static final int LISTS = 20;
        static final int BY_KIND = 0;
        static final int BY_VALUE = 1;
        static final int BY_OWNER = 2;

        private final int[] crateOf = new int[LISTS];
        private final int[] byOf = new int[LISTS];
        private final int[] isOf = new int[LISTS];
        private final int[] wrong = new int[WORKS * WORKS];
        private final int[] ways = new int[LISTS + 1];
        private final int[] packed = new int[WORKS];
        private final int[] could = new int[WORKS];
        private int size;
        private int fewest;

        int size() {
            return size;
        }

        void empty() {
            size = 0;
        }

        int addList(int crate, int by, int is) {
            if (size >= LISTS) {
                return NONE;
            }
            crateOf[size] = crate;
            byOf[size] = by;
            isOf[size] = is;
            size++;
            return size - 1;
        }

        int waysWith(int w) {
            return ways[w];
        }

        int fewestWrong() {
            return fewest;
        }

        /** The works (bits) that a crate has in some way with the fewest lists wrong. */
        int couldHave(int crate) {
            return could[crate];
        }

        void goThrough(Told told, int known) {
            Arrays.fill(wrong, 0);
            Arrays.fill(ways, 0);
            fewest = LISTS + 1;
            for (int i = 0; i < known && i < size; i++) {
                for (int work = 0; work < told.works; work++) {
                    if (!isRight(told, i, work)) {
                        wrong[crateOf[i] * WORKS + work]++;
                    }
                }
            }
            pack(told.works, 0, 0, 0);
        }

        private boolean isRight(Told told, int list, int work) {
            switch (byOf[list]) {
                case BY_KIND:
                    return told.kind[work] == isOf[list];
                case BY_VALUE:
                    return told.value[work] == isOf[list];
                default:
                    return told.owner[work] == isOf[list];
            }
        }

        private void pack(int works, int crate, int used, int wrongSoFar) {
            if (crate >= works || crate >= WORKS) {
                keepWay(works, wrongSoFar);
                return;
            }
            for (int work = 0; work < works; work++) {
                if ((used >> work & 1) == 0) {
                    packed[crate] = work;
                    pack(works, crate + 1, used | 1 << work, wrongSoFar + wrong[crate * WORKS + work]);
                }
            }
        }

        private void keepWay(int works, int wrongAll) {
            if (wrongAll > LISTS) {
                return;
            }
            ways[wrongAll]++;
            if (wrongAll < fewest) {
                fewest = wrongAll;
                Arrays.fill(could, 0);
            }
            if (wrongAll == fewest) {
                for (int crate = 0; crate < works; crate++) {
                    could[crate] |= 1 << packed[crate];
                }
            }
        }
    }
}
