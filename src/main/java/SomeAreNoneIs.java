import java.util.NoSuchElementException;

/**
 * A court in which nobody may say more than that all, no, some are or some are not, of twelve kinds
 * and of what is not of them. Its calls stand in the order of the document's promises; the classes
 * inside it come behind them, each built on those ahead of it.
 */
public final class SomeAreNoneIs {
    public static final int NONE = -1;

    private static final int NOTHING = -2;
    private static final int BEYOND = -3;
    private static final int KINDS = 12;
    private static final int TERMS = 24;
    private static final int CODES = 2304;
    private static final int SORTS = 4096;
    private static final int SAYINGS = 16;
    private static final int WITNESSES = 8;
    private static final int ALL_WITNESSES = 255;
    private static final int ALL_MOODS = 4194303;
    /** Of I, O and kinds that live together no town is looked for with more. */
    private static final int MOST_NEEDS = 12;
    /** The longest row is a chain: each of its sayings leads to a term that it has not met before. */
    private static final int LONGEST_ROW = 24;

    private final Text text;
    private final Docket docket;
    private final Court court;
    private final Search search;
    private final Sorts people;
    private final Towns towns;
    private final Moods school;
    private final Proofs prover;
    private final Lawyers bar;
    private final int[] numbers;
    private int numbersTold;

    public SomeAreNoneIs() {
        Docket sayings = new Docket();
        Court bench = new Court(sayings);
        Sorts crowd = new Sorts(sayings);
        text = new Text();
        docket = sayings;
        court = bench;
        search = new Search(sayings, bench);
        people = crowd;
        towns = new Towns(sayings, bench, crowd);
        school = new Moods();
        prover = new Proofs(sayings);
        bar = new Lawyers(sayings);
        numbers = new int[LONGEST_ROW];
        numbersTold = 0;
    }

    // ---- the case

    public int sign(int v) {
        return text.write(v);
    }

    public boolean end(int n) {
        return text.cut(n);
    }

    public int told() {
        int answer = docket.hear(text);
        text.wipe();
        return answer;
    }

    public int saying(int i, int what) throws NoSuchElementException {
        if (i < 0 || i >= docket.told || what < 0 || what > 3) {
            throw new NoSuchElementException();
        }
        return docket.tellOf(i, what);
    }

    public boolean mark(int i, int what, boolean is) {
        if (i < 0 || i >= docket.told || what < 0 || what > 1) {
            return false;
        }
        if (what == 0) {
            docket.doubted = Codes.withBit(docket.doubted, i, is);
        } else {
            docket.withdrawn = Codes.withBit(docket.withdrawn, i, is);
        }
        return true;
    }

    public boolean lives(int kind, boolean is) {
        if (kind < 0 || kind >= KINDS) {
            return false;
        }
        docket.living = Codes.withBit(docket.living, kind, is);
        return true;
    }

    public int want(int code) {
        return Codes.isCode(code) ? docket.wish(code) : NONE;
    }

    public int forget() {
        int were = docket.wishes;
        docket.wishes = 0;
        return were;
    }

    public int sheet(int kind, int n, int f, int step) {
        if (kind < 0 || kind > 3 || n > KINDS) {
            return NONE;
        }
        if (kind == 3) {
            docket.living = 0;
            return BEYOND;
        }
        if (n < 0) {
            return NOTHING;
        }
        docket.living = Codes.positiveEntries(kind, n, f, step);
        return Integer.bitCount(docket.living);
    }

    // ---- what follows (from SAYINGS that are not WITHDRAWN)

    public int holds() {
        return court.consistent(docket.active()) ? 1 : 0;
    }

    public int follows(int code) {
        if (!Codes.isCode(code)) {
            return NONE;
        }
        int active = docket.active();
        // What follows from fewer follows from more, so the stronger answer may be asked first.
        if (court.entails(active & ~docket.doubted, code)) {
            return 2;
        }
        return court.entails(active, code) ? 1 : 0;
    }

    public int decided(int code) {
        if (!Codes.isCode(code)) {
            return NONE;
        }
        int active = docket.active();
        int answer = court.entails(active, code) ? 1 : 0;
        return court.entails(active, Codes.contrary(code)) ? answer + 2 : answer;
    }

    public int from(int bits, int code) {
        if (!Codes.isCode(code) || (bits & ~docket.everything()) != 0) {
            return NONE;
        }
        return court.entails(bits, code) ? 1 : 0;
    }

    public int needs(int code) {
        if (!Codes.isCode(code)) {
            return NONE;
        }
        return court.entails(docket.active(), code) ? court.indispensable(code) : NOTHING;
    }

    public int fewest() {
        return tellSmallest(search.smallest(Search.FEWEST, NONE, docket.active(), 0));
    }

    public int idle() {
        return court.superfluous();
    }

    public int alike(int code, int other) {
        if (!Codes.isCode(code) || !Codes.isCode(other)) {
            return NONE;
        }
        boolean onward = court.entailsAlone(code, other);
        boolean backward = court.entailsAlone(other, code);
        if (onward && backward) {
            return 1;
        }
        return onward ? 2 : backward ? 3 : 0;
    }

    // ---- who can't be right together

    public int clash() {
        return tellSmallest(search.smallest(Search.CLASH, NONE, docket.active(), ~docket.doubted));
    }

    public int liars() {
        return tellSmallest(search.smallest(Search.LIARS, NONE, ALL_WITNESSES, 0));
    }

    public int truth(int witness) {
        if (witness < 0 || witness >= WITNESSES) {
            return NONE;
        }
        int own = docket.activeOf(1 << witness);
        int others = docket.active() & ~own;
        tellOne(court.countEntailed(others, own, true));
        return court.countEntailed(others, own, false);
    }

    public int trusts(int witnesses, int code) {
        if (witnesses < 0 || witnesses > ALL_WITNESSES || !Codes.isCode(code)) {
            return NONE;
        }
        return court.entails(docket.activeOf(witnesses), code) ? 1 : 0;
    }

    public int convicts(int code) {
        if (!Codes.isCode(code)) {
            return NONE;
        }
        return tellSmallest(search.smallest(Search.CONVICTS, code, ALL_WITNESSES, 0));
    }

    // ---- terms

    public int all(int term) {
        return Codes.isTerm(term) ? court.allThatAre(term) : NONE;
    }

    public int empty() {
        return court.nobodyIs();
    }

    public int chain(int x, int y) {
        if (!Codes.isTerm(x) || !Codes.isTerm(y)) {
            return NONE;
        }
        int links = court.chainOf(x, y, numbers);
        if (links >= 0) {
            numbersTold = links;
        }
        return links;
    }

    // ---- sorts and towns

    public int sorts() {
        people.settle(docket.active(), NONE);
        return people.total;
    }

    public int sort(int k) {
        if (k < 0) {
            return NONE;
        }
        people.settle(docket.active(), NONE);
        return people.numbered(k);
    }

    public int both(int x, int y) {
        if (!Codes.isTerm(x) || !Codes.isTerm(y)) {
            return NONE;
        }
        people.settle(docket.active(), NONE);
        return people.ofBoth(x, y);
    }

    public int town() {
        return tellTown(towns.least(NONE));
    }

    public int refute(int code) {
        return Codes.isCode(code) ? tellTown(towns.least(Codes.contrary(code))) : NONE;
    }

    public int judge(int a, int b, int c) {
        if (a < 0 || a > SORTS || b < 0 || b > SORTS || c < 0 || c > SORTS) {
            return NONE;
        }
        int lies = 0;
        for (int i = 0; i < docket.told; i++) {
            if ((docket.active() >> i & 1) != 0 && !Towns.isTrueOf(docket.codes[i], a, b, c)) {
                lies |= 1 << i;
            }
        }
        int missing = 0;
        for (int kind = 0; kind < KINDS; kind++) {
            // That a kind lives says no more than that some of it are of it.
            int alive = Codes.make(2, 2 * kind, 2 * kind);
            if ((docket.living >> kind & 1) != 0 && !Towns.isTrueOf(alive, a, b, c)) {
                missing |= 1 << kind;
            }
        }
        tellTwo(lies, missing);
        return lies == 0 && missing == 0 ? 1 : 0;
    }

    // ---- moods

    public int mood(int first, int second, int third, int figure) {
        if (!Codes.isForm(first) || !Codes.isForm(second) || !Codes.isForm(third)
                || figure < 1 || figure > 4) {
            return NONE;
        }
        int bits = school.mustLive(first, second, third, figure);
        if (bits == 0) {
            numbersTold = 0;
            return 2;
        }
        tellOne(bits > 0 ? bits : Moods.broken(first, second, third, figure));
        return bits > 0 ? 1 : 0;
    }

    public int figure(int figure) {
        if (figure < 1 || figure > 4) {
            return NONE;
        }
        int always = 0;
        int sometimes = 0;
        for (int i = 0; i < 64; i++) {
            int bits = school.mustLive(i >> 4, i >> 2 & 3, i & 3, figure);
            always += bits == 0 ? 1 : 0;
            sometimes += bits > 0 ? 1 : 0;
        }
        tellOne(sometimes);
        return always;
    }

    public int forms(int x, int y) {
        if (!Codes.isTerm(x) || !Codes.isTerm(y)) {
            return NONE;
        }
        int bits = 0;
        for (int form = 0; form < 4; form++) {
            if (court.entails(docket.active(), Codes.make(form, x, y))) {
                bits |= 1 << form;
            }
        }
        people.settle(docket.active(), NONE);
        tellTwo(people.ofBoth(x, y), people.ofBoth(x, y ^ 1));
        return bits;
    }

    public int allow(int moods) {
        if (moods < 0 || moods > ALL_MOODS) {
            return NONE;
        }
        int before = docket.allowed;
        docket.allowed = moods;
        return before;
    }

    public int step(int mood, int code, int other) {
        if (mood < 0 || mood >= Moods.MOODS || !Codes.isCode(code)) {
            return NONE;
        }
        boolean single = mood >= Moods.FIRST_SINGLE;
        if (single ? other != NONE : !Codes.isCode(other)) {
            return NONE;
        }
        if (!Moods.isAlive(mood, code, docket.living)) {
            return NOTHING;
        }
        return Moods.conclusion(mood, code, other);
    }

    public int proof(int code) {
        if (!Codes.isCode(code)) {
            return NONE;
        }
        int steps = prover.stepsTo(code);
        if (steps >= 0) {
            prover.findLast(code);
            tellTwo(prover.lastMood, prover.lastFirst);
            numbers[2] = prover.lastSecond;
            numbersTold = 3;
        }
        return steps;
    }

    public int rests(int code) {
        if (!Codes.isCode(code)) {
            return NONE;
        }
        if (prover.stepsTo(code) < 0) {
            return NOTHING;
        }
        prover.trace(code);
        tellTwo(prover.tracedMoods, prover.tracedDepth);
        return prover.tracedSayings;
    }

    public int proved() {
        prover.settle();
        tellOne(prover.mostSteps);
        return prover.provedCodes;
    }

    public int gap() {
        int bits = 0;
        for (int i = 0; i < docket.wishes; i++) {
            int code = docket.wanted[i];
            if (court.entails(docket.active(), code) && prover.stepsTo(code) < 0) {
                bits |= 1 << i;
            }
        }
        return bits;
    }

    // ---- lawyers

    public int plead() {
        int answer = bar.hear(text);
        text.wipe();
        return answer;
    }

    public int pleaded(int step, int what) throws NoSuchElementException {
        if (step < 0 || step >= bar.steps || what < 0 || what > 4) {
            throw new NoSuchElementException();
        }
        return bar.tellOf(step, what);
    }

    public int stands() {
        return bar.standing();
    }

    public int marks(int lawyer) {
        if (lawyer < 0 || lawyer > 3) {
            return NONE;
        }
        int own = bar.standing() & bar.stepsOf(lawyer);
        tellTwo(bar.countWanted(own), bar.countRepeated(own));
        return Integer.bitCount(own);
    }

    public int strike() {
        if (bar.steps == 0) {
            return NONE;
        }
        bar.steps--;
        return bar.steps;
    }

    // ---- kept

    public boolean keep(int i) {
        return docket.store(i);
    }

    public boolean again(int i) {
        return docket.restore(i);
    }

    public int count(int what) {
        switch (what) {
            case 0:
                return docket.told;
            case 1:
                return docket.wishes;
            case 2:
                return docket.living;
            case 3:
                return docket.allowed;
            case 4:
                return bar.steps;
            case 5:
                return docket.active();
            case 6:
                return numbersTold;
            case 7:
                return text.length;
            default:
                return NONE;
        }
    }

    public int row(int i) throws NoSuchElementException {
        if (i < 0 || i >= numbersTold) {
            throw new NoSuchElementException();
        }
        return numbers[i];
    }

    private void tellOne(int number) {
        numbers[0] = number;
        numbersTold = 1;
    }

    private void tellTwo(int number, int other) {
        numbers[0] = number;
        numbers[1] = other;
        numbersTold = 2;
    }

    private int tellSmallest(int bits) {
        if (bits < 0) {
            return bits;
        }
        tellOne(bits);
        return Integer.bitCount(bits);
    }

    private int tellTown(int size) {
        for (int i = 0; i < size; i++) {
            numbers[i] = towns.chosen[i];
        }
        if (size >= 0) {
            numbersTold = size;
        }
        return size;
    }

    /** Terms, forms, codes and sorts as numbers. */
    private static final class Codes {
        static boolean isCode(int code) {
            return code >= 0 && code < CODES;
        }

        static boolean isTerm(int term) {
            return term >= 0 && term < TERMS;
        }

        static boolean isForm(int form) {
            return form >= 0 && form <= 3;
        }

        static int make(int form, int x, int y) {
            return 576 * form + 24 * x + y;
        }

        static int form(int code) {
            return code / 576;
        }

        static int subject(int code) {
            return code / 24 % 24;
        }

        static int predicate(int code) {
            return code % 24;
        }

        /** A and O of the same terms deny one another, and so do E and I. */
        static int contrary(int code) {
            return make(3 - form(code), subject(code), predicate(code));
        }

        /** Of a universal: what all x are by it. Of another: what some x are by it. */
        static int target(int code) {
            return code % 24 ^ code / 576 & 1;
        }

        static boolean isUniversal(int code) {
            return code < CODES / 2;
        }

        static boolean isOf(int sort, int term) {
            return (sort >> (term >> 1) & 1) != (term & 1);
        }

        static int withBit(int bits, int i, boolean is) {
            return is ? bits | 1 << i : bits & ~(1 << i);
        }

        static int positiveEntries(int width, int n, int first, int step) {
            int bits = 0;
            int value = first;
            for (int k = 0; k < n; k++) {
                int entry = width == 0 ? (byte) value : width == 1 ? (short) value : value;
                if (entry > 0) {
                    bits |= 1 << k;
                }
                value += step;
            }
            return bits;
        }
    }

    /** THE TEXT, and a cursor that stays at the first sign that can't stand there. */
    private static final class Text {
        private static final int ROOM = 80;
        private static final int READABLE = 76;

        private final char[] signs = new char[ROOM];
        private int length;
        private int cursor;

        int write(int v) {
            if (length + 4 > ROOM) {
                return NONE;
            }
            for (int shift = 24; shift >= 0; shift -= 8) {
                signs[length] = (char) (v >>> shift & 255);
                length++;
            }
            return length;
        }

        boolean cut(int n) {
            if (n < 0 || n > length) {
                return false;
            }
            length = n;
            return true;
        }

        void wipe() {
            length = 0;
        }

        void open() {
            cursor = 0;
        }

        /** Signs behind the 76th are never read: a line that needs them breaks off at 76. */
        int peek() {
            return cursor < length && cursor < READABLE ? signs[cursor] : NONE;
        }

        boolean isRead() {
            return cursor == length;
        }

        int wrong() {
            return -1 - cursor;
        }

        boolean take(char sign) {
            if (peek() != sign) {
                return false;
            }
            cursor++;
            return true;
        }

        int takeWithin(char low, char high) {
            int sign = peek();
            if (sign < low || sign > high) {
                return NONE;
            }
            cursor++;
            return sign - low;
        }

        int takeForm() {
            if (take('A')) {
                return 0;
            }
            if (take('E')) {
                return 1;
            }
            if (take('I')) {
                return 2;
            }
            return take('O') ? 3 : NONE;
        }

        int takeTerm() {
            int not = take('-') ? 1 : 0;
            int kind = takeWithin('a', 'l');
            return kind == NONE ? NONE : 2 * kind + not;
        }

        int takeCode() {
            int form = takeForm();
            int x = form == NONE ? NONE : takeTerm();
            int y = x == NONE ? NONE : takeTerm();
            return y == NONE ? NONE : Codes.make(form, x, y);
        }

        int takeNumber() {
            int high = takeWithin('0', '9');
            if (high == NONE) {
                return NONE;
            }
            int low = takeWithin('0', '9');
            return low == NONE ? high : 10 * high + low;
        }
    }

    /** What has been said, and what is thought of it. */
    private static final class Docket {
        private static final int MOST_WISHES = 6;
        private static final int SHELVES = 3;

        private final int[] codes = new int[SAYINGS];
        private final int[] witnesses = new int[SAYINGS];
        private int told;
        private int doubted;
        private int withdrawn;
        private int living;
        private int allowed = ALL_MOODS;
        private final int[] wanted = new int[MOST_WISHES];
        private int wishes;
        private final boolean[] kept = new boolean[SHELVES];
        private final int[] keptSayings = new int[SHELVES];
        private final int[] keptDoubted = new int[SHELVES];
        private final int[] keptWithdrawn = new int[SHELVES];
        private final int[] keptLiving = new int[SHELVES];
        private final int[] keptAllowed = new int[SHELVES];

        /** Lines are written behind what is told, and count only when the whole text could be read. */
        int hear(Text text) {
            text.open();
            int end = told;
            int doubts = 0;
            boolean more = !text.isRead();
            for (int line = 0; more && line <= SAYINGS; line++) {
                if (end >= SAYINGS) {
                    return text.wrong();
                }
                int code = text.takeCode();
                if (code == NONE || !text.take('@')) {
                    return text.wrong();
                }
                int witness = text.takeWithin('0', '7');
                if (witness == NONE) {
                    return text.wrong();
                }
                codes[end] = code;
                witnesses[end] = witness;
                doubts = Codes.withBit(doubts, end, text.take('?'));
                end++;
                more = text.take(';');
            }
            if (!text.isRead()) {
                return text.wrong();
            }
            int lines = end - told;
            doubted |= doubts;
            told = end;
            return lines;
        }

        int tellOf(int i, int what) {
            switch (what) {
                case 0:
                    return codes[i];
                case 1:
                    return witnesses[i];
                case 2:
                    return doubted >> i & 1;
                default:
                    return withdrawn >> i & 1;
            }
        }

        int everything() {
            return (1 << told) - 1;
        }

        int active() {
            return everything() & ~withdrawn;
        }

        int activeOf(int witnessBits) {
            int bits = 0;
            for (int i = 0; i < told; i++) {
                if ((witnessBits >> witnesses[i] & 1) != 0) {
                    bits |= 1 << i;
                }
            }
            return bits & active();
        }

        boolean isActive(int i) {
            return i >= 0 && i < told && (withdrawn >> i & 1) == 0;
        }

        boolean isTold(int code) {
            for (int i = 0; i < told; i++) {
                if (codes[i] == code) {
                    return true;
                }
            }
            return false;
        }

        boolean isWanted(int code) {
            for (int i = 0; i < wishes; i++) {
                if (wanted[i] == code) {
                    return true;
                }
            }
            return false;
        }

        int wish(int code) {
            if (wishes >= MOST_WISHES) {
                return NONE;
            }
            wanted[wishes] = code;
            wishes++;
            return wishes;
        }

        boolean store(int i) {
            if (i < 0 || i >= SHELVES) {
                return false;
            }
            kept[i] = true;
            keptSayings[i] = everything();
            keptDoubted[i] = doubted;
            keptWithdrawn[i] = withdrawn;
            keptLiving[i] = living;
            keptAllowed[i] = allowed;
            return true;
        }

        boolean restore(int i) {
            if (i < 0 || i >= SHELVES || !kept[i]) {
                return false;
            }
            int since = ~keptSayings[i];
            doubted = keptDoubted[i] | doubted & since;
            withdrawn = keptWithdrawn[i] | withdrawn & since;
            living = keptLiving[i];
            allowed = keptAllowed[i];
            return true;
        }
    }

    /**
     * What some sayings come to. Each A and E says of every sort that one term brings another with
     * it, so a sort of two terms can be as soon as what they bring with them holds no term and its
     * opposite, and if there can be any sort at all. Each I, O and living kind needs one such sort,
     * and sorts do not hinder one another.
     */
    private static final class Theory {
        private static final int MOST_HELD = 29;
        private static final int EVEN_TERMS = 0x555555;

        private final int[] brings = new int[TERMS];
        private final int[] needX = new int[MOST_HELD];
        private final int[] needY = new int[MOST_HELD];
        private int held;
        private boolean barren;

        void clear() {
            for (int t = 0; t < TERMS; t++) {
                brings[t] = 1 << t;
            }
            held = 0;
            barren = false;
        }

        void copyFrom(Theory other) {
            for (int t = 0; t < TERMS; t++) {
                brings[t] = other.brings[t];
            }
            for (int i = 0; i < other.held; i++) {
                needX[i] = other.needX[i];
                needY[i] = other.needY[i];
            }
            held = other.held;
            barren = other.barren;
        }

        void add(int code) {
            if (Codes.isUniversal(code)) {
                imply(Codes.subject(code), Codes.target(code));
            } else {
                require(Codes.subject(code), Codes.target(code));
            }
        }

        void addLiving(int kinds) {
            for (int kind = 0; kind < KINDS; kind++) {
                if ((kinds >> kind & 1) != 0 && held < MOST_HELD) {
                    needX[held] = 2 * kind;
                    needY[held] = 2 * kind;
                    held++;
                }
            }
        }

        void require(int x, int y) {
            if (held < MOST_HELD) {
                needX[held] = x;
                needY[held] = y;
                held++;
            }
        }

        /** What is brought stays closed under bringing, so that no later search is needed. */
        void imply(int x, int y) {
            if ((brings[x] >> y & 1) != 0) {
                return;
            }
            for (int t = 0; t < TERMS; t++) {
                if ((brings[t] >> x & 1) != 0) {
                    brings[t] |= brings[y];
                }
            }
            for (int t = 0; t < TERMS; t++) {
                if ((brings[t] >> (y ^ 1) & 1) != 0) {
                    brings[t] |= brings[x ^ 1];
                }
            }
            // Where some term and its opposite have come to bring one another, x and its opposite have too.
            if ((brings[x] >> (x ^ 1) & 1) != 0 && (brings[x ^ 1] >> x & 1) != 0) {
                barren = true;
            }
        }

        boolean canBe(int x, int y) {
            int terms = brings[x] | brings[y];
            return !barren && (terms & terms >>> 1 & EVEN_TERMS) == 0;
        }

        /** Whether one sort can do for two needs: as soon as no two of their terms hinder one another. */
        boolean canShare(int i, int j) {
            return canBe(needX[i], needX[j]) && canBe(needX[i], needY[j])
                    && canBe(needY[i], needX[j]) && canBe(needY[i], needY[j]);
        }

        boolean consistent() {
            for (int i = 0; i < held; i++) {
                int terms = brings[needX[i]] | brings[needY[i]];
                if (barren || (terms & terms >>> 1 & EVEN_TERMS) != 0) {
                    return false;
                }
            }
            return true;
        }

        /** The needs (bits) that a sort does for. */
        int metBy(int sort) {
            int bits = 0;
            for (int i = 0; i < held; i++) {
                if (Codes.isOf(sort, needX[i]) && Codes.isOf(sort, needY[i])) {
                    bits |= 1 << i;
                }
            }
            return bits;
        }
    }

    /** What follows from sayings told as bits. */
    private static final class Court {
        private final Docket docket;
        private final Theory base = new Theory();
        private final Theory trial = new Theory();
        private final int[] distances = new int[TERMS];
        /** What base was made of: sayings never change, so it holds as long as these are the same. */
        private int baseSayings = NONE;
        private int baseLiving = NONE;

        Court(Docket docket) {
            this.docket = docket;
        }

        /** Like against(), it spells out what Theory.add() does, so that calls stay eight deep. */
        Theory prepare(int sayings) {
            if (baseSayings == sayings && baseLiving == docket.living) {
                return base;
            }
            base.clear();
            base.addLiving(docket.living);
            for (int i = 0; i < docket.told; i++) {
                int code = docket.codes[i];
                if ((sayings >> i & 1) == 0) {
                    continue;
                }
                if (Codes.isUniversal(code)) {
                    base.imply(Codes.subject(code), Codes.target(code));
                } else {
                    base.require(Codes.subject(code), Codes.target(code));
                }
            }
            baseSayings = sayings;
            baseLiving = docket.living;
            return base;
        }

        /** The prepared sayings with one more, if it is not NONE. */
        Theory against(int code) {
            trial.copyFrom(base);
            if (code == NONE) {
                return trial;
            }
            if (Codes.isUniversal(code)) {
                trial.imply(Codes.subject(code), Codes.target(code));
            } else {
                trial.require(Codes.subject(code), Codes.target(code));
            }
            return trial;
        }

        boolean consistent(int sayings) {
            return prepare(sayings).consistent();
        }

        boolean entails(int sayings, int code) {
            prepare(sayings);
            return !against(Codes.contrary(code)).consistent();
        }

        boolean entailsAlone(int premise, int code) {
            base.clear();
            base.addLiving(docket.living);
            base.add(premise);
            baseSayings = NONE;
            return !against(Codes.contrary(code)).consistent();
        }

        int indispensable(int code) {
            int active = docket.active();
            int bits = 0;
            for (int i = 0; i < docket.told; i++) {
                if ((active >> i & 1) != 0 && !entails(active & ~(1 << i), code)) {
                    bits |= 1 << i;
                }
            }
            return bits;
        }

        int superfluous() {
            int active = docket.active();
            int bits = 0;
            for (int i = 0; i < docket.told; i++) {
                if ((active >> i & 1) != 0 && entails(active & ~(1 << i), docket.codes[i])) {
                    bits |= 1 << i;
                }
            }
            return bits;
        }

        int countEntailed(int premises, int sayings, boolean contraries) {
            int count = 0;
            for (int i = 0; i < docket.told; i++) {
                int code = contraries ? Codes.contrary(docket.codes[i]) : docket.codes[i];
                if ((sayings >> i & 1) != 0 && entails(premises, code)) {
                    count++;
                }
            }
            return count;
        }

        /** Needs play no part in what terms bring with them: this is by A and E alone. */
        int allThatAre(int x) {
            Theory theory = prepare(docket.active());
            int bits = 0;
            for (int y = 0; y < TERMS; y++) {
                if (!theory.canBe(x, y ^ 1)) {
                    bits |= 1 << y;
                }
            }
            return bits;
        }

        int nobodyIs() {
            Theory theory = prepare(docket.active());
            int bits = 0;
            for (int t = 0; t < TERMS; t++) {
                if (!theory.canBe(t, t)) {
                    bits |= 1 << t;
                }
            }
            return bits;
        }

        /** Where an A or E leads from a term, as told or turned round; NONE: nowhere. */
        static int next(int code, int term) {
            int x = Codes.subject(code);
            int y = Codes.target(code);
            if (!Codes.isUniversal(code)) {
                return NONE;
            }
            if (term == x) {
                return y;
            }
            return term == (y ^ 1) ? x ^ 1 : NONE;
        }

        int chainOf(int x, int y, int[] links) {
            measureDistances(y);
            int length = distances[x];
            if (length > TERMS || length > links.length) {
                return NOTHING;
            }
            int at = x;
            for (int link = 0; link < length; link++) {
                // The least saying that comes nearer: a row is compared from its first number on.
                for (int i = 0; i < docket.told; i++) {
                    int to = docket.isActive(i) ? next(docket.codes[i], at) : NONE;
                    if (to != NONE && distances[to] == length - link - 1) {
                        links[link] = i;
                        at = to;
                        break;
                    }
                }
            }
            return length;
        }

        private void measureDistances(int y) {
            for (int t = 0; t < TERMS; t++) {
                distances[t] = t == y ? 0 : TERMS + 1;
            }
            boolean farther = true;
            for (int length = 1; length < TERMS && farther; length++) {
                farther = false;
                for (int i = 0; i < docket.told; i++) {
                    int code = docket.codes[i];
                    if (docket.isActive(i) && Codes.isUniversal(code)) {
                        farther |= reaches(Codes.subject(code), Codes.target(code), length);
                        farther |= reaches(Codes.target(code) ^ 1, Codes.subject(code) ^ 1, length);
                    }
                }
            }
        }

        /** Whether a term is new at this length because another was reached with one link less. */
        private boolean reaches(int term, int to, int length) {
            if (distances[to] != length - 1 || distances[term] <= length) {
                return false;
            }
            distances[term] = length;
            return true;
        }
    }

    /** The smallest set that is enough for a question for which more is never less. */
    private static final class Search {
        private static final int FEWEST = 0;
        private static final int CLASH = 1;
        private static final int LIARS = 2;
        private static final int CONVICTS = 3;
        /** More than the rank of any set. */
        private static final int NO_RANK = 1 << 24;

        private final Docket docket;
        private final Court court;
        private int question;
        private int code;
        private int dear;
        private int best;

        Search(Docket docket, Court court) {
            this.docket = docket;
            this.court = court;
        }

        /** Bits of the set, of as few those with the fewest that are dear, then the least. */
        int smallest(int question, int code, int elements, int dear) {
            this.question = question;
            this.code = code;
            this.dear = dear;
            best = NO_RANK;
            if (!enough(elements)) {
                return NOTHING;
            }
            int forced = 0;
            for (int e = 0; e < SAYINGS; e++) {
                if ((elements >> e & 1) != 0 && !enough(elements & ~(1 << e))) {
                    forced |= 1 << e;
                }
            }
            for (int more = 0; more <= SAYINGS && best == NO_RANK; more++) {
                explore(forced, elements & ~forced, more);
            }
            return best & (1 << SAYINGS) - 1;
        }

        /**
         * Looks at the sets of the chosen and of at most so many more of the open ones. Each that is
         * enough has an element of each cut; so cuts that share none show how many more it takes at
         * least, and of which rank it is at best.
         */
        private void explore(int chosen, int open, int more) {
            if (enough(chosen)) {
                best = Math.min(best, Integer.bitCount(chosen & dear) << SAYINGS | chosen);
                return;
            }
            if (more <= 0) {
                return;
            }
            int cut = cutOf(chosen, open);
            int taken = chosen;
            int least = chosen;
            int dears = Integer.bitCount(chosen & dear);
            int cuts = 0;
            for (int next = cut; next != 0 && cuts <= more; cuts++) {
                taken |= next;
                least |= next & -next;
                dears += (next & ~dear) == 0 ? 1 : 0;
                next = enough(taken) ? 0 : cutOf(taken, open & ~taken);
            }
            if (cut == 0 || cuts > more || (dears << SAYINGS | least) >= best) {
                return;
            }
            int left = open;
            for (int e = 0; e < SAYINGS; e++) {
                if ((cut >> e & 1) != 0) {
                    left &= ~(1 << e);
                    explore(chosen | 1 << e, left, more - 1);
                }
            }
        }

        /**
         * The chosen ones are grown as far as they stay too few: each set of them and of open ones
         * that is enough has one of those that were left out. 0: none is enough.
         */
        private int cutOf(int chosen, int open) {
            int grown = chosen;
            for (int e = 0; e < SAYINGS; e++) {
                if ((open >> e & 1) != 0 && !enough(grown | 1 << e)) {
                    grown |= 1 << e;
                }
            }
            return open & ~grown;
        }

        private boolean enough(int set) {
            switch (question) {
                case FEWEST:
                    for (int i = 0; i < docket.wishes; i++) {
                        if (!court.entails(set, docket.wanted[i])) {
                            return false;
                        }
                    }
                    return true;
                case CLASH:
                    return court.consistent(docket.active() & ~set);
                case LIARS:
                    return court.consistent(docket.active() & ~docket.activeOf(set));
                default:
                    return court.entails(docket.activeOf(set), code);
            }
        }
    }

    /** The sorts that can be by A and E: one bit for each, 64 to a word. */
    private static final class Sorts {
        private static final int WORDS = 64;
        /** Which sorts of a word are of kinds 0 .. 5; the kinds behind them tell words apart. */
        private static final long[] WITHIN = {
            0xAAAAAAAAAAAAAAAAL, 0xCCCCCCCCCCCCCCCCL, 0xF0F0F0F0F0F0F0F0L,
            0xFF00FF00FF00FF00L, 0xFFFF0000FFFF0000L, 0xFFFFFFFF00000000L
        };

        private final Docket docket;
        private final long[] words = new long[WORDS];
        private int total;
        private int settledSayings = NONE;
        private int settledExtra = NONE;

        Sorts(Docket docket) {
            this.docket = docket;
        }

        /** By sayings told as bits and one more, if it is not NONE. */
        void settle(int sayings, int extra) {
            if (settledSayings == sayings && settledExtra == extra) {
                return;
            }
            settledSayings = sayings;
            settledExtra = extra;
            for (int w = 0; w < WORDS; w++) {
                words[w] = -1L;
            }
            for (int i = 0; i < docket.told; i++) {
                if ((sayings >> i & 1) != 0) {
                    exclude(docket.codes[i]);
                }
            }
            if (extra != NONE) {
                exclude(extra);
            }
            total = 0;
            for (int w = 0; w < WORDS; w++) {
                total += Long.bitCount(words[w]);
            }
        }

        private void exclude(int code) {
            if (!Codes.isUniversal(code)) {
                return;
            }
            int x = Codes.subject(code);
            int never = Codes.target(code) ^ 1;
            for (int w = 0; w < WORDS; w++) {
                words[w] &= ~(members(x, w) & members(never, w));
            }
        }

        private static long members(int term, int word) {
            int kind = term >> 1;
            long of = kind < 6 ? WITHIN[kind] : -(long) (word >> (kind - 6) & 1);
            return (term & 1) == 0 ? of : ~of;
        }

        boolean has(int sort) {
            return (words[sort >> 6] >>> (sort & 63) & 1L) != 0L;
        }

        int ofBoth(int x, int y) {
            int count = 0;
            for (int w = 0; w < WORDS; w++) {
                count += Long.bitCount(words[w] & members(x, w) & members(y, w));
            }
            return count;
        }

        int numbered(int k) {
            int ahead = 0;
            for (int w = 0; w < WORDS; w++) {
                int here = Long.bitCount(words[w]);
                if (k < ahead + here) {
                    return numberedFrom(w, k - ahead);
                }
                ahead += here;
            }
            return NOTHING;
        }

        private int numberedFrom(int word, int k) {
            int ahead = 0;
            for (int sort = WORDS * word; sort < WORDS * word + WORDS; sort++) {
                if (has(sort)) {
                    if (ahead == k) {
                        return sort;
                    }
                    ahead++;
                }
            }
            return NOTHING;
        }
    }

    /** Towns that are as small as can be. */
    private static final class Towns {
        private final Docket docket;
        private final Court court;
        private final Sorts people;
        private final int[] chosen = new int[MOST_NEEDS];
        /** Of each need: those with which it can't share a sort (bits). */
        private final int[] apart = new int[MOST_NEEDS];
        /** Of needs (bits): the fewest sorts that do for them; 0: not known yet. */
        private final byte[] fewestFor = new byte[1 << MOST_NEEDS];

        Towns(Docket docket, Court court, Sorts people) {
            this.docket = docket;
            this.court = court;
            this.people = people;
        }

        /** How many sorts the least town has that holds, and of which one more saying (or NONE) is true. */
        int least(int extra) {
            int active = docket.active();
            court.prepare(active);
            Theory theory = court.against(extra);
            if (!theory.consistent()) {
                return NOTHING;
            }
            if (theory.held > MOST_NEEDS) {
                return BEYOND;
            }
            people.settle(active, extra);
            study(theory);
            return choose(theory);
        }

        private void study(Theory theory) {
            for (int i = 0; i < theory.held; i++) {
                apart[i] = 0;
                for (int j = 0; j < theory.held; j++) {
                    if (!theory.canShare(i, j)) {
                        apart[i] |= 1 << j;
                    }
                }
            }
            for (int set = 0; set < 1 << theory.held; set++) {
                fewestFor[set] = 0;
            }
        }

        /**
         * Takes each sort after which one fewer is left to find. A smaller one that could be taken
         * later would have been taken when it was met, so one pass finds the least row.
         */
        private int choose(Theory theory) {
            int open = (1 << theory.held) - 1;
            int size = fewestSorts(open);
            int taken = 0;
            for (int sort = 0; sort < SORTS && taken < size; sort++) {
                int met = people.has(sort) ? theory.metBy(sort) & open : 0;
                if (met != 0 && fewestSorts(open & ~met) == size - taken - 1) {
                    chosen[taken] = sort;
                    taken++;
                    open &= ~met;
                }
            }
            return taken;
        }

        /** The first need shares its sort with some others, no two of which are apart: the rest is fewer. */
        private int fewestSorts(int needs) {
            if (needs == 0) {
                return 0;
            }
            if (fewestFor[needs] != 0) {
                return fewestFor[needs];
            }
            int first = 0;
            while (first < MOST_NEEDS - 1 && (needs >> first & 1) == 0) {
                first++;
            }
            int others = needs & ~(1 << first);
            int mates = others & ~apart[first];
            int best = canAllShare(needs) ? 1 : 1 + fewestSorts(others);
            // Needs that can't all share one sort take two at least: then there is no better.
            for (int shared = mates; shared > 0 && best > 2; shared = shared - 1 & mates) {
                if (canAllShare(shared)) {
                    best = Math.min(best, 1 + fewestSorts(others & ~shared));
                }
            }
            fewestFor[needs] = (byte) best;
            return best;
        }

        private boolean canAllShare(int needs) {
            for (int i = 0; i < MOST_NEEDS; i++) {
                if ((needs >> i & 1) != 0 && (needs & apart[i]) != 0) {
                    return false;
                }
            }
            return true;
        }

        /** Of the town of three sorts, of which 4096 is nobody. */
        static boolean isTrueOf(int code, int a, int b, int c) {
            int x = Codes.subject(code);
            if (Codes.isUniversal(code)) {
                int never = Codes.target(code) ^ 1;
                return !isBoth(a, x, never) && !isBoth(b, x, never) && !isBoth(c, x, never);
            }
            int y = Codes.target(code);
            return isBoth(a, x, y) || isBoth(b, x, y) || isBoth(c, x, y);
        }

        private static boolean isBoth(int sort, int x, int y) {
            return sort < SORTS && Codes.isOf(sort, x) && Codes.isOf(sort, y);
        }
    }

    /** The moods by their numbers, and any mood by its forms and figure. */
    private static final class Moods {
        private static final int MOODS = 22;
        private static final int FIRST_SINGLE = 19;
        private static final int TURNED = 19;
        private static final int OTHER_FORM = 20;
        private static final int LOWERED = 21;
        private static final int[] FIGURES = {1, 1, 1, 1, 2, 2, 2, 2, 3, 3, 3, 3, 4, 4, 4, 3, 3, 4, 4};
        private static final int[] FIRSTS = {0, 1, 0, 1, 1, 0, 1, 0, 2, 0, 3, 1, 0, 2, 1, 0, 1, 1, 0};
        private static final int[] SECONDS = {0, 0, 2, 2, 0, 1, 2, 3, 0, 2, 0, 2, 1, 0, 2, 0, 0, 0, 0};
        private static final int[] THIRDS = {0, 1, 2, 3, 1, 1, 3, 3, 2, 2, 3, 3, 1, 2, 3, 2, 3, 3, 2};
        /** Sets of s, m, p by how many they are, then by their bits. */
        private static final int[] BY_SIZE = {0, 1, 2, 4, 3, 5, 6, 7};
        private static final int S = 0;
        private static final int M = 2;
        private static final int P = 4;

        private final Theory theory = new Theory();

        static int firstPremise(int figure, int form, int m, int p) {
            return (figure & 1) != 0 ? Codes.make(form, m, p) : Codes.make(form, p, m);
        }

        static int secondPremise(int figure, int form, int m, int s) {
            return figure <= 2 ? Codes.make(form, s, m) : Codes.make(form, m, s);
        }

        static int middleOfFirst(int figure, int code) {
            return (figure & 1) != 0 ? Codes.subject(code) : Codes.predicate(code);
        }

        static int majorOf(int figure, int code) {
            return (figure & 1) != 0 ? Codes.predicate(code) : Codes.subject(code);
        }

        static int middleOfSecond(int figure, int code) {
            return figure <= 2 ? Codes.predicate(code) : Codes.subject(code);
        }

        static int minorOf(int figure, int code) {
            return figure <= 2 ? Codes.subject(code) : Codes.predicate(code);
        }

        /** What a mood makes of its premises, if the kinds that it needs live. */
        static int conclusion(int mood, int code, int other) {
            if (mood >= FIRST_SINGLE) {
                return singleConclusion(mood, code);
            }
            int figure = FIGURES[mood];
            if (Codes.form(code) != FIRSTS[mood] || Codes.form(other) != SECONDS[mood]
                    || middleOfFirst(figure, code) != middleOfSecond(figure, other)) {
                return NOTHING;
            }
            return Codes.make(THIRDS[mood], minorOf(figure, other), majorOf(figure, code));
        }

        static int singleConclusion(int mood, int code) {
            int form = Codes.form(code);
            int x = Codes.subject(code);
            int y = Codes.predicate(code);
            switch (mood) {
                case TURNED:
                    return form == 1 || form == 2 ? Codes.make(form, y, x) : NOTHING;
                case OTHER_FORM:
                    return Codes.make(form ^ 1, x, y ^ 1);
                default:
                    return form < 2 ? Codes.make(form + 2, x, y) : NOTHING;
            }
        }

        /** The one premise of which a mood of one premise makes a saying. */
        static int singlePremise(int mood, int code) {
            int form = Codes.form(code);
            if (mood == LOWERED) {
                return form >= 2 ? Codes.make(form - 2, Codes.subject(code), Codes.predicate(code)) : NOTHING;
            }
            // The two others undo themselves.
            return singleConclusion(mood, code);
        }

        /** Whether the kind that a mood needs lives; of all moods the first premise tells which it is. */
        static boolean isAlive(int mood, int first, int living) {
            switch (mood) {
                case 15:
                case 16:
                case 18:
                case LOWERED:
                    return isLivingKind(Codes.subject(first), living);
                case 17:
                    return isLivingKind(Codes.predicate(first), living);
                default:
                    return true;
            }
        }

        private static boolean isLivingKind(int term, int living) {
            return (term & 1) == 0 && (living >> (term >> 1) & 1) != 0;
        }

        /** The fewest of s, m, p that must not be empty (bits) for a mood to hold; NONE: it never does. */
        int mustLive(int first, int second, int third, int figure) {
            int premise = firstPremise(figure, first, M, P);
            int other = secondPremise(figure, second, M, S);
            int contrary = Codes.contrary(Codes.make(third, S, P));
            if (!holdsWith(7, premise, other, contrary)) {
                return NONE;
            }
            for (int i = 0; i < BY_SIZE.length; i++) {
                if (holdsWith(BY_SIZE[i], premise, other, contrary)) {
                    return BY_SIZE[i];
                }
            }
            return NONE;
        }

        private boolean holdsWith(int living, int premise, int other, int contrary) {
            theory.clear();
            theory.addLiving(living);
            theory.add(premise);
            theory.add(other);
            theory.add(contrary);
            return !theory.consistent();
        }

        private static boolean isOfAll(int code, int term) {
            int form = Codes.form(code);
            return term == Codes.subject(code) && form < 2
                    || term == Codes.predicate(code) && (form & 1) != 0;
        }

        /** The first rule that a mood breaks which does not hold. */
        static int broken(int first, int second, int third, int figure) {
            int premise = firstPremise(figure, first, M, P);
            int other = secondPremise(figure, second, M, S);
            int verdict = Codes.make(third, S, P);
            if (!isOfAll(premise, M) && !isOfAll(other, M)) {
                return 1;
            }
            if (isOfAll(verdict, P) && !isOfAll(premise, P)) {
                return 2;
            }
            if (isOfAll(verdict, S) && !isOfAll(other, S)) {
                return 3;
            }
            int denials = (first & 1) + (second & 1);
            if (denials == 2) {
                return 4;
            }
            return denials != (third & 1) ? 5 : 6;
        }
    }

    /** The shortest proofs of all sayings that can be proved, settled by their lengths. */
    private static final class Proofs {
        /** More than any proof takes; twice as many are still a number. */
        private static final int FAR = 1 << 28;

        private final Docket docket;
        private final int[] cost = new int[CODES];
        /** Codes that can be proved, by the lengths of their proofs as far as these are settled. */
        private final int[] order = new int[CODES];
        /** Of each form and x: the y (bits) of settled codes; of each form and y: the x. */
        private final int[] predicates = new int[4 * TERMS];
        private final int[] subjects = new int[4 * TERMS];
        /** Of each code that a traced proof uses: the longest way to it from its end; else NONE. */
        private final int[] below = new int[CODES];
        private int reachedCodes;
        private int provedCodes;
        private int mostSteps;
        private int settledSayings = NONE;
        private int settledLiving;
        private int settledAllowed;
        private int lastMood;
        private int lastFirst;
        private int lastSecond;
        private int tracedSayings;
        private int tracedMoods;
        private int tracedDepth;

        Proofs(Docket docket) {
            this.docket = docket;
        }

        int stepsTo(int code) {
            settle();
            return cost[code] < FAR ? cost[code] : NOTHING;
        }

        void settle() {
            int active = docket.active();
            if (settledSayings == active && settledLiving == docket.living
                    && settledAllowed == docket.allowed) {
                return;
            }
            settledSayings = active;
            settledLiving = docket.living;
            settledAllowed = docket.allowed;
            for (int code = 0; code < CODES; code++) {
                cost[code] = FAR;
            }
            for (int i = 0; i < predicates.length; i++) {
                predicates[i] = 0;
                subjects[i] = 0;
            }
            reachedCodes = 0;
            for (int i = 0; i < docket.told; i++) {
                if (docket.isActive(i)) {
                    offer(docket.codes[i], 0);
                }
            }
            provedCodes = 0;
            mostSteps = 0;
            // Each round settles one code at least.
            for (int round = 0; round < CODES && provedCodes < reachedCodes; round++) {
                settleShortest();
            }
        }

        /** Each step makes a proof longer, so the shortest of those that wait can't get shorter. */
        private void settleShortest() {
            int level = FAR;
            for (int i = provedCodes; i < reachedCodes; i++) {
                level = Math.min(level, cost[order[i]]);
            }
            int start = provedCodes;
            for (int i = start; i < reachedCodes; i++) {
                int code = order[i];
                if (cost[code] == level) {
                    order[i] = order[provedCodes];
                    order[provedCodes] = code;
                    provedCodes++;
                    predicates[code / TERMS] |= 1 << Codes.predicate(code);
                    subjects[TERMS * Codes.form(code) + Codes.predicate(code)] |= 1 << Codes.subject(code);
                }
            }
            mostSteps = level;
            for (int i = start; i < provedCodes; i++) {
                useAlone(order[i]);
                useFirst(order[i]);
                useSecond(order[i]);
            }
        }

        private boolean isAllowed(int mood) {
            return (settledAllowed >> mood & 1) != 0;
        }

        private void offer(int code, int steps) {
            if (steps >= cost[code]) {
                return;
            }
            if (cost[code] == FAR && reachedCodes < CODES) {
                order[reachedCodes] = code;
                reachedCodes++;
            }
            cost[code] = steps;
        }

        private void useAlone(int code) {
            for (int mood = Moods.FIRST_SINGLE; mood < Moods.MOODS; mood++) {
                int made = Moods.singleConclusion(mood, code);
                if (made >= 0 && isAllowed(mood) && Moods.isAlive(mood, code, settledLiving)) {
                    offer(made, cost[code] + 1);
                }
            }
        }

        /** With each settled second premise whose conclusion is not settled yet. */
        private void useFirst(int code) {
            int form = Codes.form(code);
            for (int mood = 0; mood < Moods.FIRST_SINGLE; mood++) {
                if (form != Moods.FIRSTS[mood] || !isAllowed(mood) || !Moods.isAlive(mood, code, settledLiving)) {
                    continue;
                }
                int figure = Moods.FIGURES[mood];
                int m = Moods.middleOfFirst(figure, code);
                int p = Moods.majorOf(figure, code);
                int[] partners = figure <= 2 ? subjects : predicates;
                int minors = partners[TERMS * Moods.SECONDS[mood] + m] & ~subjects[TERMS * Moods.THIRDS[mood] + p];
                for (int s = 0; s < TERMS && minors >> s != 0; s++) {
                    if ((minors >> s & 1) != 0) {
                        int second = Moods.secondPremise(figure, Moods.SECONDS[mood], m, s);
                        offer(Codes.make(Moods.THIRDS[mood], s, p), cost[code] + cost[second] + 1);
                    }
                }
            }
        }

        /** With each settled first premise whose conclusion is not settled yet. */
        private void useSecond(int code) {
            int form = Codes.form(code);
            for (int mood = 0; mood < Moods.FIRST_SINGLE; mood++) {
                if (form != Moods.SECONDS[mood] || !isAllowed(mood)) {
                    continue;
                }
                int figure = Moods.FIGURES[mood];
                int m = Moods.middleOfSecond(figure, code);
                int s = Moods.minorOf(figure, code);
                int[] partners = (figure & 1) != 0 ? predicates : subjects;
                int majors = partners[TERMS * Moods.FIRSTS[mood] + m] & ~predicates[TERMS * Moods.THIRDS[mood] + s];
                for (int p = 0; p < TERMS && majors >> p != 0; p++) {
                    int first = Moods.firstPremise(figure, Moods.FIRSTS[mood], m, p);
                    if ((majors >> p & 1) != 0 && Moods.isAlive(mood, first, settledLiving)) {
                        offer(Codes.make(Moods.THIRDS[mood], s, p), cost[first] + cost[code] + 1);
                    }
                }
            }
        }

        /** The last step of the proof of a code that can be proved; all NONE, if it is told. */
        void findLast(int code) {
            lastMood = NONE;
            lastFirst = NONE;
            lastSecond = NONE;
            for (int mood = 0; mood < Moods.MOODS && cost[code] > 0 && lastMood == NONE; mood++) {
                if (isAllowed(mood)) {
                    if (mood < Moods.FIRST_SINGLE) {
                        findPair(mood, code);
                    } else {
                        findSingle(mood, code);
                    }
                }
            }
        }

        /** The first premise grows with its middle, and so does the row. */
        private void findPair(int mood, int code) {
            if (Codes.form(code) != Moods.THIRDS[mood]) {
                return;
            }
            int figure = Moods.FIGURES[mood];
            for (int m = 0; m < TERMS; m++) {
                int first = Moods.firstPremise(figure, Moods.FIRSTS[mood], m, Codes.predicate(code));
                int second = Moods.secondPremise(figure, Moods.SECONDS[mood], m, Codes.subject(code));
                if (cost[first] + cost[second] + 1 == cost[code]
                        && Moods.isAlive(mood, first, settledLiving)) {
                    lastMood = mood;
                    lastFirst = first;
                    lastSecond = second;
                    return;
                }
            }
        }

        private void findSingle(int mood, int code) {
            int premise = Moods.singlePremise(mood, code);
            if (premise >= 0 && cost[premise] + 1 == cost[code]
                    && Moods.isAlive(mood, premise, settledLiving)) {
                lastMood = mood;
                lastFirst = premise;
            }
        }

        /** Premises were settled ahead of what they prove, so the way back meets each code once. */
        void trace(int code) {
            for (int i = 0; i < CODES; i++) {
                below[i] = NONE;
            }
            below[code] = 0;
            tracedSayings = 0;
            tracedMoods = 0;
            tracedDepth = 0;
            for (int i = provedCodes - 1; i >= 0; i--) {
                if (below[order[i]] != NONE) {
                    traceOne(order[i]);
                }
            }
        }

        private void traceOne(int code) {
            int depth = below[code];
            if (cost[code] == 0) {
                tracedSayings |= 1 << firstSaying(code);
                tracedDepth = Math.max(tracedDepth, depth);
                return;
            }
            findLast(code);
            if (lastMood != NONE) {
                tracedMoods |= 1 << lastMood;
            }
            if (lastFirst != NONE) {
                below[lastFirst] = Math.max(below[lastFirst], depth + 1);
            }
            if (lastSecond != NONE) {
                below[lastSecond] = Math.max(below[lastSecond], depth + 1);
            }
        }

        private int firstSaying(int code) {
            int i = 0;
            while (i < docket.told - 1 && !(docket.isActive(i) && docket.codes[i] == code)) {
                i++;
            }
            return i;
        }
    }

    /** Steps that lawyers plead. */
    private static final class Lawyers {
        private static final int MOST_STEPS = 24;
        /** A text of 76 signs has at most 11 lines, which are read behind the steps that there are. */
        private static final int ROOM = 40;

        private final Docket docket;
        private final int[] codes = new int[ROOM];
        private final int[] lawyers = new int[ROOM];
        private final int[] firsts = new int[ROOM];
        private final int[] seconds = new int[ROOM];
        private final int[] moods = new int[ROOM];
        private int steps;

        Lawyers(Docket docket) {
            this.docket = docket;
        }

        int hear(Text text) {
            int lines = read(text);
            for (int k = 0; k < lines; k++) {
                int why = weigh(steps + k);
                if (why != 0) {
                    return -100 - 10 * k - why;
                }
            }
            if (lines > 0) {
                steps += lines;
            }
            return lines;
        }

        private int read(Text text) {
            text.open();
            int end = steps;
            boolean more = !text.isRead();
            while (more && end < ROOM) {
                if (!readLine(text, end)) {
                    return text.wrong();
                }
                end++;
                more = text.take(';');
            }
            return text.isRead() ? end - steps : text.wrong();
        }

        private boolean readLine(Text text, int at) {
            lawyers[at] = text.takeWithin('0', '3');
            if (lawyers[at] == NONE || !text.take(':')) {
                return false;
            }
            firsts[at] = text.takeNumber();
            if (firsts[at] == NONE) {
                return false;
            }
            seconds[at] = NONE;
            if (text.take('+')) {
                seconds[at] = text.takeNumber();
                if (seconds[at] == NONE) {
                    return false;
                }
            }
            codes[at] = text.takeCode();
            return codes[at] != NONE;
        }

        /** 0, or why a step does not follow; if it does, its mood is written down. */
        private int weigh(int at) {
            if (!isKnown(firsts[at], at) || seconds[at] != NONE && !isKnown(seconds[at], at)) {
                return 1;
            }
            if (at >= MOST_STEPS) {
                return 2;
            }
            int premise = codeOf(firsts[at]);
            if (seconds[at] == NONE) {
                return hasTermsOfOne(premise, codes[at]) ? tryMoods(at, premise, NONE) : 3;
            }
            int other = codeOf(seconds[at]);
            if (!hasTermsOfTwo(premise, other, codes[at]) && !hasTermsOfTwo(other, premise, codes[at])) {
                return 3;
            }
            return tryMoods(at, premise, other);
        }

        private boolean isKnown(int number, int at) {
            return number < SAYINGS ? docket.isActive(number) : number - SAYINGS < at;
        }

        private int codeOf(int number) {
            return number < SAYINGS ? docket.codes[number] : codes[number - SAYINGS];
        }

        private static boolean hasTermsOfOne(int premise, int code) {
            int x = Codes.subject(premise);
            int y = Codes.predicate(premise);
            int s = Codes.subject(code);
            int p = Codes.predicate(code);
            return s == y && p == x || s == x && (p == y || p == (y ^ 1));
        }

        private static boolean hasTermsOfTwo(int first, int second, int code) {
            for (int figure = 1; figure <= 4; figure++) {
                if (Moods.middleOfFirst(figure, first) == Moods.middleOfSecond(figure, second)
                        && Moods.majorOf(figure, first) == Codes.predicate(code)
                        && Moods.minorOf(figure, second) == Codes.subject(code)) {
                    return true;
                }
            }
            return false;
        }

        private int tryMoods(int at, int premise, int other) {
            int why = 4;
            int start = other == NONE ? Moods.FIRST_SINGLE : 0;
            int end = other == NONE ? Moods.MOODS : Moods.FIRST_SINGLE;
            for (int mood = start; mood < end; mood++) {
                int here = tryMood(mood, premise, other, codes[at]);
                if (here != 0 && other != NONE) {
                    int turned = tryMood(mood, other, premise, codes[at]);
                    here = turned == 0 ? 0 : Math.max(here, turned);
                }
                if (here == 0) {
                    moods[at] = mood;
                    return 0;
                }
                why = Math.max(why, here);
            }
            return why;
        }

        private int tryMood(int mood, int first, int second, int code) {
            if (Moods.conclusion(mood, first, second) != code) {
                return 4;
            }
            if ((docket.allowed >> mood & 1) == 0) {
                return 5;
            }
            return Moods.isAlive(mood, first, docket.living) ? 0 : 6;
        }

        int tellOf(int i, int what) {
            switch (what) {
                case 0:
                    return codes[i];
                case 1:
                    return lawyers[i];
                case 2:
                    return firsts[i];
                case 3:
                    return seconds[i];
                default:
                    return moods[i];
            }
        }

        int standing() {
            int bits = 0;
            for (int i = 0; i < steps; i++) {
                if (isStanding(firsts[i], bits) && (seconds[i] == NONE || isStanding(seconds[i], bits))) {
                    bits |= 1 << i;
                }
            }
            return bits;
        }

        private boolean isStanding(int number, int standing) {
            return number < SAYINGS ? docket.isActive(number) : (standing >> (number - SAYINGS) & 1) != 0;
        }

        int stepsOf(int lawyer) {
            int bits = 0;
            for (int i = 0; i < steps; i++) {
                if (lawyers[i] == lawyer) {
                    bits |= 1 << i;
                }
            }
            return bits;
        }

        int countWanted(int some) {
            int count = 0;
            for (int i = 0; i < steps; i++) {
                if ((some >> i & 1) != 0 && docket.isWanted(codes[i])) {
                    count++;
                }
            }
            return count;
        }

        int countRepeated(int some) {
            int count = 0;
            for (int i = 0; i < steps; i++) {
                if ((some >> i & 1) != 0 && (docket.isTold(codes[i]) || isPleadedAhead(i))) {
                    count++;
                }
            }
            return count;
        }

        private boolean isPleadedAhead(int step) {
            for (int i = 0; i < step; i++) {
                if (codes[i] == codes[step]) {
                    return true;
                }
            }
            return false;
        }
    }
}
