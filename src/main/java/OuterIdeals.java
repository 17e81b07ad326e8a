/**
 * Elements of an outer algebra over a prime field, the ideals that some of them generate, and what can be asked of
 * these. The promises are told in DOC.md; README.md says how the class is used.
 */
public final class OuterIdeals {
    public static final int NONE = -1, BAD = -2, STATE = -3, FULL = -4;
    public static final long NO = Long.MIN_VALUE;

    private static final int NOTHING = -11, CAST = -12, PLACE = -13, SIZE = -14;
    private static final int NOT_FOUND = -5;
    private static final int FAULT = -10;
    private static final int SHORT_ROW = 100;

    private static final int LEFT = 0, RIGHT = 1, BOTH = 2;
    private static final int HANDS = 2;
    private static final int BY_NUMBER = 0, BY_DEGREE = 1;

    private static final int MOST_LETTERS = 4;
    private static final int MOST_PLACES = 16;
    private static final int ELEMENTS = 6;
    private static final int MOST_GENERATORS = 4;
    private static final int MOST_ROWS = 8;
    private static final int SPOT_UNIT = 100;
    private static final int GREATEST_NUMBER = 6;
    private static final int GREATEST_FRACTION = 99;
    private static final int LAST_STEP = 2;

    private final Setup now = new Setup();
    private final Setup kept = new Setup();
    private boolean imageTaken = false;
    private final Script script = new Script();
    private final Tapes tapes = new Tapes();
    private final Ideals ideals = new Ideals();
    private final Steps steps = new Steps();
    private final int[] work = new int[MOST_PLACES];

    public OuterIdeals() {
    }

    // ---- elements

    public int letters(int n) {
        int was = now.letters;
        return now.takeLetters(n) ? was : BAD;
    }

    public int prime(int p) {
        int was = now.prime;
        return now.takePrime(p) ? was : BAD;
    }

    public int order(int kind) {
        int was = now.kind;
        return now.takeKind(kind) ? was : NONE;
    }

    public int set(int element, int place, int v) {
        if (!now.hasElement(element) || !now.hasPlace(place)) {
            return NONE;
        }
        int was = now.elements[element][place];
        now.elements[element][place] = Outer.modulo(v, now.prime);
        return was;
    }

    public int product(int k, int a, int b) {
        if (!now.hasElement(k) || !now.hasElement(a) || !now.hasElement(b)) {
            return NONE;
        }
        Outer.multiply(now.elements[a], now.elements[b], work, now.width(), now.prime);
        return now.replaceElement(k, work);
    }

    public int mix(int k, int a, int u, int b, int v) {
        if (!now.hasElement(k) || !now.hasElement(a) || !now.hasElement(b)) {
            return NONE;
        }
        int p = now.prime;
        int timesA = Outer.modulo(u, p);
        int timesB = Outer.modulo(v, p);
        for (int place = 0; place < now.width(); place++) {
            work[place] = Outer.modulo(timesA * now.elements[a][place] + timesB * now.elements[b][place], p);
        }
        return now.replaceElement(k, work);
    }

    public int becomes(int k, int a, int how) {
        if (!now.hasElement(k) || !now.hasElement(a) || how < 0 || how > 4) {
            return NONE;
        }
        if (how == 0) {
            Outer.turn(now.elements[a], work, now.width(), now.prime);
        } else if (how == 1) {
            Outer.complement(now.elements[a], work, now.width(), now.prime);
        } else {
            leaveRest(ideals.ofSide(now, how - 2), a);
        }
        return now.replaceElement(k, work);
    }

    public int generate(int element) {
        if (!now.hasElement(element)) {
            return NONE;
        }
        return now.addGenerator(element) ? now.generatorCount : FULL;
    }

    public int clear() {
        int were = now.generatorCount;
        now.dropGenerators();
        return were;
    }

    public int feed(int sign) {
        if (sign < 0 || sign > 127) {
            return BAD;
        }
        return script.append(sign) ? script.length : FULL;
    }

    public int read() {
        int fault = script.faultPlace();
        int answer = fault >= 0 ? FAULT - fault : script.perform(now);
        script.length = 0;
        return answer;
    }

    // ---- what is told

    public int of(int element, int place) {
        return now.hasElement(element) && now.hasPlace(place) ? now.elements[element][place] : NONE;
    }

    public int told(int what) {
        switch (what) {
            case 0:
                return now.letters;
            case 1:
                return now.prime;
            case 2:
                return now.kind;
            case 3:
                return now.generatorCount;
            case 4:
                return now.width();
            default:
                return NONE;
        }
    }

    public int generator(int generator, int place) {
        return now.hasGenerator(generator) && now.hasPlace(place) ? now.generators[generator][place] : NONE;
    }

    public int places(int a, int b) {
        if (!now.hasPlace(a) || !now.hasPlace(b)) {
            return NONE;
        }
        int sign = Outer.sign(a, b);
        return sign == 0 ? NOT_FOUND : 100 * (a | b) + sign + 1;
    }

    public int lead(int element) {
        if (!now.hasElement(element)) {
            return NONE;
        }
        int lead = Outer.leadIn(now.elements[element], now.width(), now.kind);
        return lead < 0 ? NOT_FOUND : lead;
    }

    // ---- ideals

    public int rank(int side) {
        return isSide(side) ? ideals.ofSide(now, side).size : NONE;
    }

    public int basis(int side, int i, int place) {
        if (!isSide(side) || place < -1 || place >= now.width()) {
            return NONE;
        }
        Span ideal = ideals.ofSide(now, side);
        int lead = ideal.leadNumber(i);
        if (lead < 0) {
            return NONE;
        }
        return place < 0 ? lead : ideal.rows[lead][place];
    }

    public int within(int side, int element) {
        if (!isSide(side) || !now.hasElement(element)) {
            return NONE;
        }
        leaveRest(ideals.ofSide(now, side), element);
        return Outer.nonZeros(work, now.width()) == 0 ? 1 : 0;
    }

    public int rest(int side, int element, int place) {
        if (!isSide(side) || !now.hasElement(element) || !now.hasPlace(place)) {
            return NONE;
        }
        leaveRest(ideals.ofSide(now, side), element);
        return work[place];
    }

    public int count(int side, int d) {
        if (!isSide(side) || d < 0 || d > now.letters) {
            return NONE;
        }
        return ideals.ofSide(now, side).leadsOfDegree(d);
    }

    public int series(int side, int num, int den) {
        if (!isSide(side)) {
            return NONE;
        }
        if (num < 1 || num > GREATEST_FRACTION || den < 1 || den > GREATEST_FRACTION) {
            return BAD;
        }
        Span ideal = ideals.ofSide(now, side);
        float x = (float) num / (float) den;
        float s = 0.0f;
        for (int d = now.letters; d >= 0; d--) {
            s = s * x + (float) (Outer.placesOfDegree(d, now.width()) - ideal.leadsOfDegree(d));
        }
        return Bits.ofFloat(s);
    }

    public long mean(int side) {
        if (!isSide(side)) {
            return NO;
        }
        Span ideal = ideals.ofSide(now, side);
        if (ideal.size <= 0) {
            return Bits.ofDouble(0.0);
        }
        int degrees = 0;
        for (int d = 0; d <= now.letters; d++) {
            degrees += d * ideal.leadsOfDegree(d);
        }
        return Bits.ofDouble((double) degrees / (double) ideal.size);
    }

    public int annihilator(int side, int hand, int what) {
        if (!isSide(side) || !isHand(hand) || what < 0 || what > 3) {
            return NONE;
        }
        Span first = ideals.annihilatorOf(now, side, hand);
        if (what == 0) {
            return first.size;
        }
        if (what == 3) {
            int lead = first.leadNumber(0);
            return lead < 0 ? NOT_FOUND : lead;
        }
        Span again = ideals.annihilatorAgain(now, hand);
        if (what == 1) {
            return again.size;
        }
        return ideals.liesIn(ideals.ofSide(now, side), again) ? 1 : 0;
    }

    public int annihilates(int side, int hand, int i, int place) {
        if (!isSide(side) || !isHand(hand) || !now.hasPlace(place)) {
            return NONE;
        }
        Span annihilator = ideals.annihilatorOf(now, side, hand);
        int lead = annihilator.leadNumber(i);
        return lead < 0 ? NONE : annihilator.rows[lead][place];
    }

    public int step(int k) {
        if (k < 0 || k > LAST_STEP) {
            return NONE;
        }
        if (k == LAST_STEP && now.letters == MOST_LETTERS) {
            return STATE;
        }
        return steps.countOf(now, ideals.ofSide(now, LEFT), k);
    }

    // ---- fits, odds

    public int fits(int side, int element, int place, int what) {
        if (!isSide(side) || !now.hasElement(element) || !now.hasPlace(place) || what < 0 || what > 1) {
            return NONE;
        }
        Span ideal = ideals.ofSide(now, side);
        int fitting = 0;
        int least = NOT_FOUND;
        for (int v = 0; v < now.prime; v++) {
            Outer.copy(now.elements[element], work, now.width());
            work[place] = v;
            ideal.takeFrom(work);
            if (Outer.nonZeros(work, now.width()) == 0) {
                least = fitting == 0 ? v : least;
                fitting++;
            }
        }
        return what == 0 ? fitting : least;
    }

    public long odds(int side, int part) {
        if (!isSide(side) || part < 0 || part > 1) {
            return NO;
        }
        if (part == 0) {
            // A share of p^RANK in p^PLACES always comes down to one in a power of p.
            return 1L;
        }
        int power = now.width() - ideals.ofSide(now, side).size;
        long below = 1L;
        for (int i = 0; i < power; i++) {
            below *= now.prime;
        }
        return below;
    }

    // ---- events, books

    public int event(int what, int n) {
        if (what == -1) {
            now.eventCount = 0;
            return 0;
        }
        if (what < 0 || what > 4 || (what == 0 && !now.hasElement(n)) || (what == 3 && !isKind(n))) {
            return NONE;
        }
        if (what != 0 && what != 3 && (n < 0 || n >= MOST_LETTERS)) {
            return BAD;
        }
        return now.addEvent(what, n) ? now.eventCount : FULL;
    }

    public int after(int side, int what) {
        if (!isSide(side) || what < 0 || what > 2) {
            return NONE;
        }
        Span later = ideals.afterEvents(now, side);
        if (what == 0) {
            return later.size;
        }
        if (what == 2) {
            return ideals.laterCount;
        }
        int lead = later.leadNumber(0);
        return lead < 0 ? NOT_FOUND : lead;
    }

    public int book(int spot, int v) {
        if (spot == -1) {
            now.bookCount = 0;
            return 0;
        }
        if (!now.hasSpot(spot)) {
            return NONE;
        }
        if (v < 0 || v > GREATEST_NUMBER) {
            return BAD;
        }
        return now.addToBook(spot, v) ? now.bookCount : FULL;
    }

    public int looked() {
        for (int row = 0; row < now.bookCount && row < MOST_ROWS; row++) {
            int spot = now.spots[row];
            if (!now.hasSpot(spot) || now.elements[spot / SPOT_UNIT][spot % SPOT_UNIT] != now.numbers[row]) {
                return row;
            }
        }
        return NOT_FOUND;
    }

    // ---- judging, the image, tapes

    public int judge(int element, int tape, int i) {
        if (!now.hasElement(element) || !tapes.has(tape)) {
            return NONE;
        }
        if (tapes.isEmpty(tape)) {
            return SHORT_ROW;
        }
        if (!tapes.holdsBytes(tape)) {
            return CAST;
        }
        if (i < 0 || i > tapes.lengths[tape]) {
            return SHORT_ROW;
        }
        for (int place = 0; place < now.width(); place++) {
            if (!tapes.hasItem(tape, i + place)) {
                return SHORT_ROW + place;
            }
            if (tapes.items[tape][i + place] != now.elements[element][place]) {
                return place;
            }
        }
        return NOT_FOUND;
    }

    public int image() {
        kept.copyFrom(now);
        imageTaken = true;
        return now.generatorCount;
    }

    public int undo() {
        if (!imageTaken) {
            return STATE;
        }
        now.copyFrom(kept);
        return now.generatorCount;
    }

    public int counted(int what) {
        switch (what) {
            case 0:
                return now.eventCount;
            case 1:
                return now.bookCount;
            case 2:
                return script.length;
            default:
                return BAD;
        }
    }

    public int tape(int tape, int sort, int n) {
        if (!tapes.has(tape)) {
            return NONE;
        }
        if (sort == Tapes.EMPTY) {
            tapes.discard(tape);
            return 1;
        }
        if (!Tapes.isSort(sort) || n > Tapes.MOST_ITEMS) {
            return BAD;
        }
        if (n < 0) {
            return SIZE;
        }
        tapes.lay(tape, sort, n);
        return 1;
    }

    public int item(int tape, int i, long v) {
        if (!tapes.has(tape)) {
            return NONE;
        }
        if (tapes.isEmpty(tape)) {
            return NOTHING;
        }
        if (!tapes.hasItem(tape, i)) {
            return PLACE;
        }
        tapes.items[tape][i] = Tapes.narrowed(v, tapes.sorts[tape]);
        return 1;
    }

    public long peek(int tape, int i) {
        return tapes.has(tape) && tapes.hasItem(tape, i) ? tapes.items[tape][i] : NO;
    }

    public int shift(int tape, int i, int other, int j, int n) {
        if (!tapes.has(tape) || !tapes.has(other)) {
            return NONE;
        }
        if (tapes.isEmpty(tape) || tapes.isEmpty(other)) {
            return NOTHING;
        }
        if (tapes.sorts[tape] != tapes.sorts[other]) {
            return CAST;
        }
        if (!tapes.hasStretch(tape, i, n) || !tapes.hasStretch(other, j, n)) {
            return PLACE;
        }
        System.arraycopy(tapes.items[tape], i, tapes.items[other], j, n);
        return n;
    }

    // ---- what several calls share

    private static boolean isSide(int side) {
        return side >= LEFT && side <= BOTH;
    }

    private static boolean isHand(int hand) {
        return hand >= 0 && hand < HANDS;
    }

    private static boolean isKind(int kind) {
        return kind == BY_NUMBER || kind == BY_DEGREE;
    }

    private void leaveRest(Span ideal, int element) {
        Outer.copy(now.elements[element], work, now.width());
        ideal.takeFrom(work);
    }

    /** Reckoning modulo a prime, with places and with rows of numbers. */
    private static final class Outer {
        private static final int[] PLACES_BY_DEGREE = {0, 1, 2, 4, 8, 3, 5, 6, 9, 10, 12, 7, 11, 13, 14, 15};

        private Outer() {
        }

        static int modulo(int v, int prime) {
            return prime > 0 ? Math.floorMod(v, prime) : 0;
        }

        static int inverse(int v, int prime) {
            for (int i = 1; i < prime; i++) {
                if (v * i % prime == 1) {
                    return i;
                }
            }
            return 0;
        }

        /** SIGN of the PRODUCT of two PLACES; 0: there is none. */
        static int sign(int a, int b) {
            if ((a & b) != 0) {
                return 0;
            }
            // A shift by k lays each letter of a on the one that is k less, so this counts the pairs by distance.
            int pairs = Integer.bitCount((a >> 1) & b) + Integer.bitCount((a >> 2) & b) + Integer.bitCount((a >> 3) & b);
            return (pairs & 1) == 0 ? 1 : -1;
        }

        /** The i-th PLACE in ORDER, as if there were four letters: with fewer the others stand in the same order. */
        static int placeInOrder(int i, int kind) {
            return kind == BY_DEGREE && i >= 0 && i < MOST_PLACES ? PLACES_BY_DEGREE[i] : i;
        }

        /** The first place in ORDER at which x is not 0; -1: it is all 0. */
        static int leadIn(int[] x, int width, int kind) {
            for (int i = 0; i < width || i < MOST_PLACES; i++) {
                int place = placeInOrder(i, kind);
                if (place < width && x[place] != 0) {
                    return place;
                }
            }
            return -1;
        }

        static int placesOfDegree(int d, int width) {
            int places = 0;
            for (int place = 0; place < width; place++) {
                places += Integer.bitCount(place) == d ? 1 : 0;
            }
            return places;
        }

        static void copy(int[] from, int[] to, int width) {
            for (int place = 0; place < width && place < from.length && place < to.length; place++) {
                to[place] = from[place];
            }
        }

        static int nonZeros(int[] x, int width) {
            int found = 0;
            for (int place = 0; place < width && place < x.length; place++) {
                found += x[place] != 0 ? 1 : 0;
            }
            return found;
        }

        static void multiply(int[] x, int[] y, int[] out, int width, int prime) {
            for (int place = 0; place < width; place++) {
                int sum = 0;
                for (int a = 0; a < width; a++) {
                    if ((a & ~place) == 0) {
                        sum += sign(a, place ^ a) * x[a] * y[place ^ a];
                    }
                }
                out[place] = modulo(sum, prime);
            }
        }

        static void turn(int[] x, int[] out, int width, int prime) {
            for (int place = 0; place < width; place++) {
                int d = Integer.bitCount(place);
                boolean odd = ((d * (d - 1) / 2) & 1) != 0;
                out[place] = modulo(odd ? -x[place] : x[place], prime);
            }
        }

        static void complement(int[] x, int[] out, int width, int prime) {
            for (int place = 0; place < width; place++) {
                int others = (width - 1) ^ place;
                out[place] = modulo(sign(others, place) * x[others], prime);
            }
        }

        /**
         * A letter times x (LEFT) or x times a letter (RIGHT). From the left several elements may stand one behind the
         * other in x: the sign hangs on lesser letters alone then.
         */
        static void byLetter(int side, int letter, int[] x, int[] out, int width, int prime) {
            int bit = 1 << letter;
            for (int place = 0; place < width; place++) {
                int without = place & ~bit;
                int sign = side == LEFT ? sign(bit, without) : sign(without, bit);
                out[place] = without == place ? 0 : modulo(sign * x[without], prime);
            }
        }
    }

    /** Floats and doubles of 0 and above by their bits: the library's own way to them is not for this class. */
    private static final class Bits {
        /** Far beyond what series and means can come to, and within what a double can. */
        private static final int MOST_HALVINGS = 100;

        private Bits() {
        }

        /** Those of the same double, with a lesser offset of the power and 29 bits less of the part. */
        static int ofFloat(float x) {
            return x > 0.0f ? (int) ((ofDouble((double) x) >> 29) - ((1023L - 127L) << 23)) : 0;
        }

        static long ofDouble(double x) {
            if (!(x > 0.0)) {
                return 0L;
            }
            double part = x;
            int power = 0;
            for (int i = 0; i < MOST_HALVINGS && part >= 2.0; i++) {
                part = part / 2.0;
                power++;
            }
            for (int i = 0; i < MOST_HALVINGS && part < 1.0; i++) {
                part = part * 2.0;
                power--;
            }
            return ((long) (power + 1023) << 52) | (long) ((part - 1.0) * (double) (1L << 52));
        }
    }

    /** All that THE IMAGE keeps: the algebra, its ELEMENTS and GENERATORS, EVENTS and the BOOK. */
    private static final class Setup {
        int letters = 3;
        int prime = 5;
        int kind = BY_NUMBER;
        final int[][] elements = new int[ELEMENTS][MOST_PLACES];
        final int[][] generators = new int[MOST_GENERATORS][MOST_PLACES];
        int generatorCount = 0;
        final int[] eventSorts = new int[MOST_ROWS];
        final int[] eventNumbers = new int[MOST_ROWS];
        int eventCount = 0;
        final int[] spots = new int[MOST_ROWS];
        final int[] numbers = new int[MOST_ROWS];
        int bookCount = 0;
        /** Grows with each change of what the ideals hang on, so that a basis need be completed only once. */
        int edition = 0;

        int width() {
            return 1 << letters;
        }

        boolean hasElement(int element) {
            return element >= 0 && element < ELEMENTS;
        }

        boolean hasPlace(int place) {
            return place >= 0 && place < width();
        }

        boolean hasGenerator(int generator) {
            return generator >= 0 && generator < generatorCount;
        }

        boolean hasSpot(int spot) {
            return spot >= 0 && hasElement(spot / SPOT_UNIT) && hasPlace(spot % SPOT_UNIT);
        }

        boolean takeLetters(int n) {
            if (n < 2 || n > MOST_LETTERS) {
                return false;
            }
            letters = n;
            beginAnew();
            return true;
        }

        boolean takePrime(int p) {
            if (p != 2 && p != 3 && p != 5 && p != 7) {
                return false;
            }
            prime = p;
            beginAnew();
            return true;
        }

        private void beginAnew() {
            for (int element = 0; element < ELEMENTS; element++) {
                for (int place = 0; place < MOST_PLACES; place++) {
                    elements[element][place] = 0;
                }
            }
            dropGenerators();
        }

        boolean takeKind(int newKind) {
            if (!isKind(newKind)) {
                return false;
            }
            kind = newKind;
            edition++;
            return true;
        }

        /** ELEMENT k becomes x: at how many PLACES it isn't 0. */
        int replaceElement(int k, int[] x) {
            if (!hasElement(k)) {
                return NONE;
            }
            Outer.copy(x, elements[k], width());
            return Outer.nonZeros(x, width());
        }

        boolean addGenerator(int element) {
            if (!hasElement(element) || generatorCount >= MOST_GENERATORS) {
                return false;
            }
            Outer.copy(elements[element], generators[generatorCount], MOST_PLACES);
            generatorCount++;
            edition++;
            return true;
        }

        void dropGenerators() {
            generatorCount = 0;
            edition++;
        }

        boolean addEvent(int what, int n) {
            if (eventCount >= MOST_ROWS) {
                return false;
            }
            eventSorts[eventCount] = what;
            eventNumbers[eventCount] = n;
            eventCount++;
            return true;
        }

        boolean addToBook(int spot, int v) {
            if (bookCount >= MOST_ROWS) {
                return false;
            }
            spots[bookCount] = spot;
            numbers[bookCount] = v;
            bookCount++;
            return true;
        }

        void copyFrom(Setup other) {
            letters = other.letters;
            prime = other.prime;
            kind = other.kind;
            for (int element = 0; element < ELEMENTS; element++) {
                Outer.copy(other.elements[element], elements[element], MOST_PLACES);
            }
            for (int generator = 0; generator < MOST_GENERATORS; generator++) {
                Outer.copy(other.generators[generator], generators[generator], MOST_PLACES);
            }
            generatorCount = other.generatorCount;
            Outer.copy(other.eventSorts, eventSorts, MOST_ROWS);
            Outer.copy(other.eventNumbers, eventNumbers, MOST_ROWS);
            eventCount = other.eventCount;
            Outer.copy(other.spots, spots, MOST_ROWS);
            Outer.copy(other.numbers, numbers, MOST_ROWS);
            bookCount = other.bookCount;
            edition++;
        }
    }

    /** THE TEXT: whether it is in form, and what its CLAUSES do. */
    private static final class Script {
        private static final int MOST_SIGNS = 100;
        private static final int MOST_CLAUSES = 12;
        private static final int MOST_DIGITS = 2;

        private final int[] signs = new int[MOST_SIGNS];
        int length = 0;
        private int at = 0;
        private final int[] sum = new int[MOST_PLACES];

        boolean append(int sign) {
            if (length >= MOST_SIGNS) {
                return false;
            }
            signs[length] = sign;
            length++;
            return true;
        }

        /** Where the FAULT is; -1: there is none. */
        int faultPlace() {
            at = 0;
            for (int clause = 1; clause <= MOST_CLAUSES; clause++) {
                if (!passClause()) {
                    return at;
                }
                if (at >= length) {
                    return -1;
                }
                if (clause == MOST_CLAUSES || !passSign(';')) {
                    return at;
                }
            }
            return at;
        }

        /** Does the CLAUSES of a text in form: how many were done. */
        int perform(Setup setup) {
            int done = 0;
            at = 0;
            for (int clause = 1; clause <= MOST_CLAUSES && at < length; clause++) {
                done += doClause(setup) ? 1 : 0;
                passSign(';');
            }
            return done;
        }

        private int signHere() {
            return at >= 0 && at < length && at < MOST_SIGNS ? signs[at] : -1;
        }

        private boolean passSign(int sign) {
            boolean here = signHere() == sign;
            at += here ? 1 : 0;
            return here;
        }

        /** The digit that stands here, and past it; -1: none does. */
        private int passDigit() {
            int sign = signHere();
            if (sign < '0' || sign > '9') {
                return -1;
            }
            at++;
            return sign - '0';
        }

        /** The LETTER that stands here, and past it; -1: none does. */
        private int passLetter() {
            int sign = signHere();
            if (sign < 'a' || sign > 'd') {
                return -1;
            }
            at++;
            return sign - 'a';
        }

        private boolean passClause() {
            if (passSign('x')) {
                return true;
            }
            if (passSign('g') || passSign('n') || passSign('p') || passSign('o')) {
                return passDigit() >= 0;
            }
            return passDigit() >= 0 && passSign(':') && passSum();
        }

        private boolean passSum() {
            passSign('-');
            for (int term = 0; term < MOST_SIGNS; term++) {
                if (!passTerm()) {
                    return false;
                }
                if (!passSign('+') && !passSign('-')) {
                    return true;
                }
            }
            return false;
        }

        private boolean passTerm() {
            int start = at;
            for (int i = 0; i < MOST_DIGITS; i++) {
                passDigit();
            }
            for (int i = 0; i < MOST_LETTERS; i++) {
                passLetter();
            }
            return at > start;
        }

        private boolean doClause(Setup setup) {
            if (passSign('x')) {
                setup.dropGenerators();
                return true;
            }
            if (passSign('g')) {
                return setup.addGenerator(passDigit());
            }
            if (passSign('n')) {
                return setup.takeLetters(passDigit());
            }
            if (passSign('p')) {
                return setup.takePrime(passDigit());
            }
            if (passSign('o')) {
                return setup.takeKind(passDigit());
            }
            int element = passDigit();
            passSign(':');
            if (!addUp(setup) || !setup.hasElement(element)) {
                return false;
            }
            setup.replaceElement(element, sum);
            return true;
        }

        /** The SUM that stands here; whether there are all its LETTERS. */
        private boolean addUp(Setup setup) {
            for (int place = 0; place < MOST_PLACES; place++) {
                sum[place] = 0;
            }
            boolean whole = true;
            int factor = passSign('-') ? -1 : 1;
            for (int term = 0; term < MOST_SIGNS; term++) {
                whole = addTerm(factor, setup) && whole;
                if (passSign('+')) {
                    factor = 1;
                } else if (passSign('-')) {
                    factor = -1;
                } else {
                    return whole;
                }
            }
            return whole;
        }

        private boolean addTerm(int factor, Setup setup) {
            int first = passDigit();
            int second = passDigit();
            int number = factor * (first < 0 ? 1 : second < 0 ? first : 10 * first + second);
            int place = 0;
            boolean whole = true;
            for (int i = 0; i < MOST_LETTERS; i++) {
                int letter = passLetter();
                if (letter < 0) {
                    break;
                }
                whole = whole && letter < setup.letters;
                number *= Outer.sign(place, 1 << letter);
                place |= 1 << letter;
            }
            sum[place] = Outer.modulo(sum[place] + number, setup.prime);
            return whole;
        }
    }

    /** TAPES: each item is held as the long that it widens to. */
    private static final class Tapes {
        static final int EMPTY = -1;
        static final int MOST_ITEMS = 60;
        private static final int TAPES = 6;
        private static final int BYTES = 0, SHORTS = 1, INTS = 2, BOOLEANS = 4;

        final int[] sorts = new int[TAPES];
        final int[] lengths = new int[TAPES];
        final long[][] items = new long[TAPES][MOST_ITEMS];

        Tapes() {
            for (int tape = 0; tape < TAPES; tape++) {
                sorts[tape] = EMPTY;
            }
        }

        static boolean isSort(int sort) {
            return sort >= BYTES && sort <= BOOLEANS;
        }

        static long narrowed(long v, int sort) {
            switch (sort) {
                case BYTES:
                    return (byte) v;
                case SHORTS:
                    return (short) v;
                case INTS:
                    return (int) v;
                case BOOLEANS:
                    return v != 0L ? 1L : 0L;
                default:
                    return v;
            }
        }

        boolean has(int tape) {
            return tape >= 0 && tape < TAPES;
        }

        boolean isEmpty(int tape) {
            return sorts[tape] == EMPTY;
        }

        boolean holdsBytes(int tape) {
            return sorts[tape] == BYTES;
        }

        /** An empty tape has the length 0, so that it has no item either. */
        boolean hasItem(int tape, int i) {
            return i >= 0 && i < lengths[tape];
        }

        boolean hasStretch(int tape, int i, int n) {
            return i >= 0 && n >= 0 && i <= lengths[tape] && n <= lengths[tape] - i;
        }

        void discard(int tape) {
            sorts[tape] = EMPTY;
            lengths[tape] = 0;
        }

        void lay(int tape, int sort, int n) {
            sorts[tape] = sort;
            lengths[tape] = n;
            for (int i = 0; i < MOST_ITEMS; i++) {
                items[tape][i] = 0L;
            }
        }
    }

    /** All sums of multiples of some rows of numbers, by the one basis of rows with 1 at a lead, 0 at all others'. */
    private static final class Span {
        /** The row whose lead is at a place stands under the number of that place, where one is held. */
        final int[][] rows;
        private final boolean[] held;
        int size = 0;
        private int width = 0;
        private int prime = 2;
        private int kind = BY_NUMBER;

        Span(int room) {
            rows = new int[room][room];
            held = new boolean[room];
        }

        void begin(int newWidth, int newPrime, int newKind) {
            width = Math.min(newWidth, held.length);
            prime = Math.max(newPrime, 2);
            kind = newKind;
            size = 0;
            for (int place = 0; place < width; place++) {
                held[place] = false;
            }
        }

        boolean holds(int lead) {
            return lead >= 0 && lead < width && held[lead];
        }

        /** Leaves the rest of x: it is 0 at all leads then. */
        void takeFrom(int[] x) {
            for (int place = 0; place < width; place++) {
                if (held[place]) {
                    lessen(x, x[place], rows[place]);
                }
            }
        }

        private void lessen(int[] x, int times, int[] row) {
            if (times == 0 || prime < 2) {
                return;
            }
            int back = prime - times;
            for (int place = 0; place < width; place++) {
                x[place] = (x[place] + back * row[place]) % prime;
            }
        }

        /** x comes to the rows, and only its rest is left of it: whether there is more in the span now. */
        boolean admit(int[] x) {
            takeFrom(x);
            int lead = Outer.leadIn(x, width, kind);
            if (lead < 0) {
                return false;
            }
            int[] row = rows[lead];
            int inverse = Outer.inverse(x[lead], prime);
            for (int place = 0; place < width; place++) {
                row[place] = Outer.modulo(inverse * x[place], prime);
            }
            for (int place = 0; place < width; place++) {
                if (held[place]) {
                    lessen(rows[place], rows[place][lead], row);
                }
            }
            held[lead] = true;
            size++;
            return true;
        }

        /** The i-th lead in ORDER; -1: there is none. */
        int leadNumber(int i) {
            int ahead = 0;
            for (int at = 0; at < width || at < MOST_PLACES; at++) {
                int place = Outer.placeInOrder(at, kind);
                if (holds(place)) {
                    if (ahead == i) {
                        return place;
                    }
                    ahead++;
                }
            }
            return -1;
        }

        int leadsOfDegree(int d) {
            int leads = 0;
            for (int place = 0; place < width; place++) {
                leads += held[place] && Integer.bitCount(place) == d ? 1 : 0;
            }
            return leads;
        }

        /**
         * The rows read as equations: the solution with 1 at this place and 0 at all others that are no leads.
         * Together these tell all solutions. Whether there is one: not where a lead is.
         */
        boolean solve(int free, int[] out) {
            if (free < 0 || free >= width || held[free]) {
                return false;
            }
            for (int place = 0; place < width; place++) {
                out[place] = held[place] ? Outer.modulo(-rows[place][free], prime) : 0;
            }
            out[free] = 1;
            return true;
        }
    }

    /** THE IDEALS of the three SIDES, their ANNIHILATORS, and the ideal that EVENTS would lead to. */
    private static final class Ideals {
        private final Span left = new Span(MOST_PLACES);
        private final Span right = new Span(MOST_PLACES);
        private final Span both = new Span(MOST_PLACES);
        private final int[] editions = {-1, -1, -1};
        private final Span equations = new Span(MOST_PLACES);
        private final Span annihilator = new Span(MOST_PLACES);
        private final Span again = new Span(MOST_PLACES);
        private final Span later = new Span(MOST_PLACES);
        private final int[][] laterGenerators = new int[MOST_GENERATORS][MOST_PLACES];
        int laterCount = 0;
        private int laterKind = BY_NUMBER;
        private final int[][] newcomers = new int[MOST_PLACES][MOST_PLACES];
        private int newcomerCount = 0;
        private final int[] row = new int[MOST_PLACES];

        Span ofSide(Setup setup, int side) {
            Span span = side == LEFT ? left : side == RIGHT ? right : both;
            if (side >= 0 && side < editions.length && editions[side] != setup.edition) {
                span.begin(setup.width(), setup.prime, setup.kind);
                complete(span, side, setup, setup.generators, setup.generatorCount);
                editions[side] = setup.edition;
            }
            return span;
        }

        /**
         * An ideal is the least span that holds the generators and, with each row, its products with the letters.
         * Only rows that bring something new need be multiplied, and of these there are no more than places.
         */
        private void complete(Span span, int side, Setup setup, int[][] generators, int count) {
            newcomerCount = 0;
            for (int i = 0; i < count && i < generators.length; i++) {
                Outer.copy(generators[i], row, setup.width());
                welcome(span, setup);
            }
            for (int i = 0; i < newcomerCount && i < MOST_PLACES; i++) {
                for (int letter = 0; letter < setup.letters; letter++) {
                    if (side != RIGHT) {
                        Outer.byLetter(LEFT, letter, newcomers[i], row, setup.width(), setup.prime);
                        welcome(span, setup);
                    }
                    if (side != LEFT) {
                        Outer.byLetter(RIGHT, letter, newcomers[i], row, setup.width(), setup.prime);
                        welcome(span, setup);
                    }
                }
            }
        }

        private void welcome(Span span, Setup setup) {
            if (span.admit(row) && newcomerCount < MOST_PLACES) {
                Outer.copy(row, newcomers[newcomerCount], setup.width());
                newcomerCount++;
            }
        }

        Span annihilatorOf(Setup setup, int side, int hand) {
            annihilate(ofSide(setup, side), setup, hand, annihilator);
            return annihilator;
        }

        /** By the other hand than the one by which the last annihilator came. */
        Span annihilatorAgain(Setup setup, int hand) {
            annihilate(annihilator, setup, 1 - hand, again);
            return again;
        }

        private void annihilate(Span ideal, Setup setup, int hand, Span found) {
            equations.begin(setup.width(), setup.prime, BY_NUMBER);
            for (int lead = 0; lead < setup.width(); lead++) {
                if (ideal.holds(lead)) {
                    demandNought(ideal.rows[lead], setup, hand);
                }
            }
            found.begin(setup.width(), setup.prime, setup.kind);
            for (int free = 0; free < setup.width(); free++) {
                if (equations.solve(free, row)) {
                    found.admit(row);
                }
            }
        }

        /** For each place the equation that x g (hand 0) or g x (hand 1) be 0 there; x is sought. */
        private void demandNought(int[] g, Setup setup, int hand) {
            for (int place = 0; place < setup.width(); place++) {
                for (int part = 0; part < setup.width(); part++) {
                    int other = place & ~part;
                    int sign = hand == 0 ? Outer.sign(part, other) : Outer.sign(other, part);
                    row[part] = (part | other) == place ? Outer.modulo(sign * g[other], setup.prime) : 0;
                }
                equations.admit(row);
            }
        }

        boolean liesIn(Span inner, Span outer) {
            for (int lead = 0; lead < MOST_PLACES; lead++) {
                if (inner.holds(lead)) {
                    Outer.copy(inner.rows[lead], row, MOST_PLACES);
                    outer.takeFrom(row);
                    if (Outer.nonZeros(row, outer.width) != 0) {
                        return false;
                    }
                }
            }
            return true;
        }

        Span afterEvents(Setup setup, int side) {
            laterCount = 0;
            for (int i = 0; i < setup.generatorCount; i++) {
                comeLater(setup.generators[i]);
            }
            laterKind = setup.kind;
            for (int i = 0; i < setup.eventCount && i < MOST_ROWS; i++) {
                happen(setup, setup.eventSorts[i], setup.eventNumbers[i]);
            }
            later.begin(setup.width(), setup.prime, laterKind);
            complete(later, side, setup, laterGenerators, laterCount);
            return later;
        }

        private void comeLater(int[] x) {
            if (laterCount < MOST_GENERATORS) {
                Outer.copy(x, laterGenerators[laterCount], MOST_PLACES);
                laterCount++;
            }
        }

        private void happen(Setup setup, int what, int n) {
            if (what == 0 && setup.hasElement(n)) {
                comeLater(setup.elements[n]);
            } else if ((what == 1 || what == 2) && n < setup.letters) {
                multiplyLater(setup, what == 1 ? LEFT : RIGHT, n);
            } else if (what == 3) {
                laterKind = n;
            } else if (what == 4) {
                goLater(n);
            }
        }

        private void multiplyLater(Setup setup, int side, int letter) {
            for (int i = 0; i < laterCount && i < MOST_GENERATORS; i++) {
                Outer.byLetter(side, letter, laterGenerators[i], row, setup.width(), setup.prime);
                Outer.copy(row, laterGenerators[i], setup.width());
            }
        }

        private void goLater(int n) {
            if (n < 0 || n >= laterCount) {
                return;
            }
            for (int i = n; i + 1 < laterCount && i + 1 < MOST_GENERATORS; i++) {
                Outer.copy(laterGenerators[i + 1], laterGenerators[i], MOST_PLACES);
            }
            laterCount--;
        }
    }

    /**
     * STEPS of the LEFT IDEAL. A module is a span of rows of ELEMENTS, one behind the other; its least generators are
     * those that its products with the letters lack; the next module is that of the relations among these.
     */
    private static final class Steps {
        /**
         * Four generators of four letters are rows of 64 numbers. With three letters there are never more than eight
         * relations to choose (as many as ab, ac, bc have), which are rows of 64 numbers in their turn.
         */
        private static final int ROOM = 64;
        private static final int MOST_CHOSEN = 8;

        private final Span products = new Span(ROOM);
        private final Span equations = new Span(ROOM);
        private final int[][] chosen = new int[MOST_CHOSEN][ROOM];
        private int chosenCount = 0;
        private int parts = 1;
        private final int[] row = new int[ROOM];
        private final int[] moved = new int[ROOM];

        int countOf(Setup setup, Span ideal, int k) {
            chooseGenerators(setup, ideal);
            int told = chosenCount;
            for (int level = 1; level <= k && level <= LAST_STEP; level++) {
                relateChosen(setup);
                told = countRelations(setup);
                if (level < k) {
                    chooseRelations(setup);
                }
            }
            return told;
        }

        /** Modulo the products, the generators tell all of the ideal, so the least ones are found among them. */
        private void chooseGenerators(Setup setup, Span ideal) {
            products.begin(setup.width(), setup.prime, BY_NUMBER);
            for (int lead = 0; lead < setup.width(); lead++) {
                if (ideal.holds(lead)) {
                    admitProducts(ideal.rows[lead], setup.width(), setup);
                }
            }
            parts = 1;
            chosenCount = 0;
            for (int i = 0; i < setup.generatorCount && i < MOST_GENERATORS; i++) {
                choose(setup.generators[i], setup.width(), setup);
            }
        }

        private void admitProducts(int[] x, int rowWidth, Setup setup) {
            for (int letter = 0; letter < setup.letters; letter++) {
                Outer.byLetter(LEFT, letter, x, moved, rowWidth, setup.prime);
                products.admit(moved);
            }
        }

        private void choose(int[] x, int rowWidth, Setup setup) {
            Outer.copy(x, moved, rowWidth);
            boolean room = chosenCount < MOST_CHOSEN && (chosenCount + 1) * setup.width() <= ROOM;
            if (products.admit(moved) && room) {
                Outer.copy(x, chosen[chosenCount], rowWidth);
                chosenCount++;
            }
        }

        /** For each part and each place the equation that all x times what was chosen be 0 there, together. */
        private void relateChosen(Setup setup) {
            int width = setup.width();
            equations.begin(chosenCount * width, setup.prime, BY_NUMBER);
            for (int part = 0; part < parts; part++) {
                for (int place = 0; place < width; place++) {
                    for (int i = 0; i < chosenCount; i++) {
                        fillEquation(i, part * width, place, setup);
                    }
                    equations.admit(row);
                }
            }
        }

        private void fillEquation(int i, int start, int place, Setup setup) {
            int width = setup.width();
            for (int a = 0; a < width; a++) {
                int other = place & ~a;
                int number = Outer.sign(a, other) * chosen[i][start + other];
                row[i * width + a] = (a | other) == place ? Outer.modulo(number, setup.prime) : 0;
            }
        }

        private int countRelations(Setup setup) {
            int rowWidth = chosenCount * setup.width();
            products.begin(rowWidth, setup.prime, BY_NUMBER);
            for (int free = 0; free < rowWidth; free++) {
                if (equations.solve(free, row)) {
                    admitProducts(row, rowWidth, setup);
                }
            }
            return rowWidth - equations.size - products.size;
        }

        private void chooseRelations(Setup setup) {
            int rowWidth = chosenCount * setup.width();
            parts = chosenCount;
            chosenCount = 0;
            for (int free = 0; free < rowWidth; free++) {
                if (equations.solve(free, row)) {
                    choose(row, rowWidth, setup);
                }
            }
        }
    }
}
