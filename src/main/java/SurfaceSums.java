/**
 * Surfaces summed by algebras with a trace. What each call promises is told in DOC.md, by number.
 *
 * All rows are made in constructors and used again, so that no call makes an object.
 */
public final class SurfaceSums {
    public static final int NONE = -1, BAD = -2, STATE = -3, FULL = -4, NOT = -5;
    public static final long NO = Long.MIN_VALUE;

    private static final int NOTHING = -11, BEYOND = -13, BELOW = -14, FAULT = -100;

    private static final int PRIME = 9973;
    private static final int MOST_ALGEBRAS = 4, MOST_SURFACES = 4, MOST_LISTS = 4;
    private static final int MOST_ELEMENTS = 6, MOST_FIGURE = 9, MOST_TURNS = 20;
    private static final int MOST_PIECES = 24, MOST_CIRCLES = 3, MOST_PLACES = 216;
    private static final int MOST_BYTES = 60, MOST_ROWS = 8, LONGEST_LIST = 12;
    private static final int MOST_SEEDS = 30;

    private static final int POINTS = 0, SCALED = 1, CYCLE = 2, TWIST = 3, GRADED = 4;
    private static final int DISC = 0, PANTS = 1, SPLIT = 2, CAP = 3, EXCHANGE = 4, HANDLE = 5, CROSSCAP = 6;
    private static final int KINDS_OF_PIECES = 7;

    /** By piece, as the seven constants above: its letter, the circles it needs, those it adds, its Euler number. */
    private static final char[] LETTERS = {'o', 'm', 'w', 'c', 'x', 'h', 'k'};
    private static final int[] NEEDS = {0, 2, 1, 1, 2, 1, 1};
    private static final int[] ADDS = {1, -1, 1, -1, 0, 0, 0};
    private static final int[] EULER = {1, -1, -1, 1, 0, -2, -1};

    private final State truth = new State();
    private final State imaged = new State();
    private boolean hasImage;

    private final Tape tape = new Tape();
    private final Lists lists = new Lists();
    private final int[] paperBytes = new int[MOST_PIECES];
    private int paperSize;

    /** Used by one call after the other; nothing in them outlasts a call. */
    private final Surface thoughtSurface = new Surface();
    private final Algebra thoughtAlgebra = new Algebra();
    private final Parts parts = new Parts();
    private final Parts otherParts = new Parts();
    private final Sums sums = new Sums();
    private final Sums otherSums = new Sums();

    /** Rows that have been made hold what is due at first: no algebras, no pieces, nothing in lists. */
    public SurfaceSums() {
    }

    // ---- algebras

    public int algebra(int kind, int size, int figure) {
        if (kind < POINTS || kind > GRADED) {
            return NONE;
        }
        if (size < 1 || size > mostSize(kind) || !isFigure(figure)) {
            return BAD;
        }
        if (truth.algebraCount >= MOST_ALGEBRAS) {
            return FULL;
        }
        truth.algebras[truth.algebraCount].make(kind, size, figure);
        truth.algebraCount++;
        return truth.algebraCount - 1;
    }

    public int becomes(int algebra, int v) {
        Algebra a = truth.algebraAt(algebra);
        if (a == null) {
            return NONE;
        }
        if (!isFigure(v)) {
            return BAD;
        }
        int was = a.figure;
        a.make(a.kind, a.size, v);
        return was;
    }

    public int of(int algebra, int what) {
        Algebra a = truth.algebraAt(algebra);
        if (a == null) {
            return NONE;
        }
        switch (what) {
            case 0: return a.kind;
            case 1: return a.size;
            case 2: return a.figure;
            case 3: return a.elements;
            default: return NONE;
        }
    }

    public int product(int algebra, int i, int j, int k) {
        Algebra a = truth.algebraAt(algebra);
        if (a == null || !a.has(i) || !a.has(j) || !a.has(k)) {
            return NONE;
        }
        return a.timesInProduct(i, j, k);
    }

    public int form(int algebra, int i, int j, int what) {
        Algebra a = truth.algebraAt(algebra);
        if (a == null || !a.has(i) || !a.has(j)) {
            return NONE;
        }
        switch (what) {
            case 0: return a.formOf(i, j);
            case 1: return a.turnedOf(i, j);
            default: return NONE;
        }
    }

    public int element(int algebra, int i, int what) {
        Algebra a = truth.algebraAt(algebra);
        if (a == null || !a.has(i)) {
            return NONE;
        }
        switch (what) {
            case 0: return a.trace[i];
            case 1: return a.one[i];
            case 2: return a.handle[i];
            case 3: return a.cross[i];
            default: return NONE;
        }
    }

    public int split(int algebra, int e, int j, int k) {
        Algebra a = truth.algebraAt(algebra);
        if (a == null || !a.has(e) || !a.has(j) || !a.has(k)) {
            return NONE;
        }
        return a.timesInSplit(e, j, k);
    }

    public int closed(int algebra, int h, int c) {
        Algebra a = truth.algebraAt(algebra);
        if (a == null) {
            return NONE;
        }
        if (!isTurns(h) || !isTurns(c)) {
            return BAD;
        }
        return a.closedBy(h, c);
    }

    public int handles(int algebra, int c, int v) {
        Algebra a = truth.algebraAt(algebra);
        if (a == null) {
            return NONE;
        }
        if (!isTurns(c)) {
            return BAD;
        }
        for (int h = 0; h <= MOST_TURNS; h++) {
            if (a.closedBy(h, c) == v) {
                return h;
            }
        }
        return NOT;
    }

    public int were(int algebra, int h, int c, int v) {
        Algebra a = truth.algebraAt(algebra);
        if (a == null) {
            return NONE;
        }
        if (!isTurns(h) || !isTurns(c)) {
            return BAD;
        }
        int bits = 0;
        for (int figure = 0; figure <= MOST_FIGURE; figure++) {
            thoughtAlgebra.make(a.kind, a.size, figure);
            if (thoughtAlgebra.closedBy(h, c) == v) {
                bits |= 1 << figure;
            }
        }
        return bits;
    }

    // ---- surfaces

    public int feed(int letter) {
        if (letter < 1 || letter > 127) {
            return BAD;
        }
        if (tape.size >= MOST_BYTES) {
            return FULL;
        }
        tape.append(letter);
        return tape.size;
    }

    public int surface(int surface) {
        Surface s = truth.surfaceAt(surface);
        if (s == null) {
            return NONE;
        }
        int fault = tape.readInto(thoughtSurface);
        tape.size = 0;
        if (fault != NONE) {
            return FAULT - fault;
        }
        s.copyFrom(thoughtSurface);
        return s.size;
    }

    public int piece(int surface, int piece) {
        Surface s = truth.surfaceAt(surface);
        if (s == null || piece < 0 || piece >= KINDS_OF_PIECES) {
            return NONE;
        }
        if (!canStand(piece, s.circles)) {
            return STATE;
        }
        return s.append(piece) ? s.size : FULL;
    }

    public int pieceOf(int surface, int i) {
        Surface s = truth.surfaceAt(surface);
        if (s == null || i < 0 || i >= s.size) {
            return NONE;
        }
        return s.pieces[i];
    }

    public int shape(int surface, int what) {
        Surface s = truth.surfaceAt(surface);
        if (s == null) {
            return NONE;
        }
        parts.find(s);
        switch (what) {
            case 0: return s.size;
            case 1: return s.circles;
            case 2: return parts.size;
            case 3: return parts.unlike();
            case 4: return parts.withoutRims();
            case 5: return 100 + parts.eulerOfAll();
            default: return NONE;
        }
    }

    public int part(int surface, int k, int what) {
        Surface s = truth.surfaceAt(surface);
        if (s == null) {
            return NONE;
        }
        parts.find(s);
        if (k < 0 || k >= parts.size) {
            return NONE;
        }
        switch (what) {
            case 0: return parts.rims[k];
            case 1: return 100 + parts.euler[k];
            case 2: return parts.oneSided[k] ? 1 : 0;
            case 3: return parts.genus(k);
            default: return NONE;
        }
    }

    public int rim(int surface, int circle) {
        Surface s = truth.surfaceAt(surface);
        if (s == null || circle < 0 || circle >= s.circles) {
            return NONE;
        }
        parts.find(s);
        return parts.ofCircle[circle];
    }

    public int match(int one, int other) {
        Surface s = truth.surfaceAt(one);
        Surface t = truth.surfaceAt(other);
        if (s == null || t == null) {
            return NONE;
        }
        parts.find(s);
        otherParts.find(t);
        return parts.matched(otherParts);
    }

    // ---- sums

    public int sum(int surface, int algebra, int place) {
        Surface s = truth.surfaceAt(surface);
        Algebra a = truth.algebraAt(algebra);
        if (s == null || a == null) {
            return NONE;
        }
        sums.find(s, a);
        return sums.hasPlace(place) ? sums.numbers[place] : NONE;
    }

    public int total(int surface, int algebra, int what) {
        Surface s = truth.surfaceAt(surface);
        Algebra a = truth.algebraAt(algebra);
        if (s == null || a == null) {
            return NONE;
        }
        sums.find(s, a);
        switch (what) {
            case 0: return sums.places();
            case 1: return sums.notZero();
            case 2: return sums.firstNotZero();
            case 3: return sums.together();
            default: return NONE;
        }
    }

    public int alike(int one, int other, int algebra) {
        Surface s = truth.surfaceAt(one);
        Surface t = truth.surfaceAt(other);
        Algebra a = truth.algebraAt(algebra);
        if (s == null || t == null || a == null) {
            return NONE;
        }
        sums.find(s, a);
        otherSums.find(t, a);
        return sums.sameAs(otherSums) ? 1 : 0;
    }

    // ---- gluing, draws

    public int glue(int one, int other) {
        Surface s = truth.surfaceAt(one);
        Surface t = truth.surfaceAt(other);
        if (s == null || t == null) {
            return NONE;
        }
        int fault = s.glueFault(t);
        if (fault != 0) {
            return fault;
        }
        s.glueOn(t);
        return s.size;
    }

    public int cut(int surface, int k) {
        Surface s = truth.surfaceAt(surface);
        if (s == null) {
            return NONE;
        }
        if (k < 0 || k > s.size) {
            return BAD;
        }
        int had = s.size;
        s.keepFirst(k);
        return had;
    }

    public int draws(int surface, int n, int seed) {
        Surface s = truth.surfaceAt(surface);
        if (s == null) {
            return NONE;
        }
        if (n < 1 || n > MOST_PIECES) {
            return BAD;
        }
        s.drawMore(n, seed);
        return s.size;
    }

    public long odds(int n, int seed, int m, int part) {
        if (n < 1 || n > MOST_PIECES || m < 1 || m > MOST_SEEDS || part < 0 || part > 1) {
            return NO;
        }
        int above = 0;
        for (int i = 0; i < m; i++) {
            thoughtSurface.keepFirst(0);
            thoughtSurface.drawMore(n, seed + i);
            if (thoughtSurface.circles == 0) {
                above++;
            }
        }
        int divisor = commonDivisor(above, m);
        return part == 0 ? above / divisor : m / divisor;
    }

    // ---- plans, written

    public int plan(int what, int v) {
        if (what < -1 || what > 2) {
            return NONE;
        }
        if (what == -1) {
            truth.plan.size = 0;
            return 0;
        }
        if (!Plan.canTell(what, v)) {
            return BAD;
        }
        if (truth.plan.size >= MOST_ROWS) {
            return FULL;
        }
        truth.plan.append(what, v);
        return truth.plan.size;
    }

    public int behind(int surface, int what) {
        Surface s = truth.surfaceAt(surface);
        if (s == null) {
            return NONE;
        }
        thoughtSurface.copyFrom(s);
        truth.doPlan(thoughtSurface);
        switch (what) {
            case 0: return thoughtSurface.size;
            case 1: return thoughtSurface.circles;
            case 2:
                parts.find(thoughtSurface);
                return parts.size;
            default: return what < 10 ? NONE : thoughtTogether(what - 10);
        }
    }

    private int thoughtTogether(int algebra) {
        Algebra a = truth.algebraAt(algebra);
        if (a == null) {
            return NONE;
        }
        sums.find(thoughtSurface, a);
        return sums.together();
    }

    public int write(int surface) {
        Surface s = truth.surfaceAt(surface);
        if (s == null) {
            return NONE;
        }
        for (int i = 0; i < s.size; i++) {
            paperBytes[i] = LETTERS[s.pieces[i]];
        }
        paperSize = s.size;
        return paperSize;
    }

    public int paper(int i) {
        return i < 0 || i >= paperSize ? NONE : paperBytes[i];
    }

    // ---- lists, the image

    public int judge(int list, int surface, int algebra) {
        Surface s = truth.surfaceAt(surface);
        Algebra a = truth.algebraAt(algebra);
        if (!lists.hasNumber(list) || s == null || a == null) {
            return NONE;
        }
        if (!lists.isHeld(list)) {
            return NOTHING;
        }
        sums.find(s, a);
        for (int i = 0; i < lists.sizes[list]; i++) {
            int due = sums.hasPlace(i) ? sums.numbers[i] : 0;
            if (lists.rows[list][i] != due) {
                return i;
            }
        }
        return NOT;
    }

    public int list(int list, int n) {
        if (!lists.hasNumber(list)) {
            return NONE;
        }
        if (n > LONGEST_LIST) {
            return BAD;
        }
        if (n < 0) {
            return BELOW;
        }
        lists.hold(list, n);
        return 1;
    }

    public int put(int list, int i, int v) {
        if (!lists.hasNumber(list)) {
            return NONE;
        }
        if (!lists.isHeld(list)) {
            return NOTHING;
        }
        if (!lists.hasPlace(list, i)) {
            return BEYOND;
        }
        lists.rows[list][i] = v;
        return 1;
    }

    public long get(int list, int i) {
        return lists.hasPlace(list, i) ? lists.rows[list][i] : NO;
    }

    public int image() {
        imaged.copyFrom(truth);
        hasImage = true;
        return truth.algebraCount;
    }

    public int undo() {
        if (!hasImage) {
            return STATE;
        }
        truth.copyFrom(imaged);
        return truth.algebraCount;
    }

    public int count(int what) {
        switch (what) {
            case 0: return truth.algebraCount;
            case 1: return truth.piecesOfAll();
            case 2: return tape.size;
            case 3: return paperSize;
            case 4: return truth.plan.size;
            default: return BAD;
        }
    }

    // ---- what several calls need

    private static int mostSize(int kind) {
        return kind == GRADED ? 2 : MOST_ELEMENTS;
    }

    private static boolean isFigure(int v) {
        return v >= 0 && v <= MOST_FIGURE;
    }

    private static boolean isTurns(int n) {
        return n >= 0 && n <= MOST_TURNS;
    }

    private static boolean canStand(int piece, int circles) {
        if (piece < 0 || piece >= KINDS_OF_PIECES) {
            return false;
        }
        return circles >= NEEDS[piece] && circles + ADDS[piece] <= MOST_CIRCLES;
    }

    private static boolean isOdd(int n) {
        return (n & 1) == 1;
    }

    /** Of numbers 0 .. 9972 alone: their product and sum stay within an int. */
    private static int plusTimes(int n, int a, int b) {
        return (n + a * b) % PRIME;
    }

    /** By Fermat: 9973 is a prime. */
    private static int inverse(int n) {
        int result = 1;
        int square = n;
        for (int left = PRIME - 2; left > 0; left >>= 1) {
            if (isOdd(left)) {
                result = plusTimes(0, result, square);
            }
            square = plusTimes(0, square, square);
        }
        return result;
    }

    /** 1 or more, also of 0 and m: then it is m, so that 0 is told as 0 by 1. */
    private static int commonDivisor(int n, int m) {
        for (int d = m; d > 1; d--) {
            if (n % d == 0 && m % d == 0) {
                return d;
            }
        }
        return 1;
    }

    /** An algebra of a kind, with its tables: made anew when its figure changes. */
    private static final class Algebra {
        private int kind, size, figure, elements;
        /**
         * By i * elements + j. In every kind the product of two elements is one element (TARGET), so many times
         * (FACTOR, which is 0 where there is nothing).
         */
        private final int[] target = new int[MOST_ELEMENTS * MOST_ELEMENTS];
        private final int[] factor = new int[MOST_ELEMENTS * MOST_ELEMENTS];
        private final int[] turned = new int[MOST_ELEMENTS * MOST_ELEMENTS];
        private final int[] trace = new int[MOST_ELEMENTS];
        private final int[] one = new int[MOST_ELEMENTS];
        private final int[] handle = new int[MOST_ELEMENTS];
        private final int[] cross = new int[MOST_ELEMENTS];
        private int[] standing = new int[MOST_ELEMENTS];
        private int[] spare = new int[MOST_ELEMENTS];

        void make(int newKind, int newSize, int newFigure) {
            kind = newKind;
            size = newSize;
            figure = newFigure;
            elements = newKind == GRADED ? 1 << newSize : newSize;
            for (int i = 0; i < elements; i++) {
                trace[i] = traceByKind(i);
                one[i] = i == 0 || kind == POINTS || kind == SCALED ? 1 : 0;
                for (int j = 0; j < elements; j++) {
                    target[at(i, j)] = targetByKind(i, j);
                    factor[at(i, j)] = factorByKind(i, j);
                }
            }
            makeTurned();
            makeHandleAndCross();
        }

        private int traceByKind(int i) {
            switch (kind) {
                case POINTS: return 1;
                case SCALED: return figure + i + 1;
                case CYCLE: return i == 0 ? 1 : 0;
                default: return i == elements - 1 ? 1 : 0;
            }
        }

        private int targetByKind(int i, int j) {
            switch (kind) {
                case POINTS:
                case SCALED: return i;
                case GRADED: return i | j;
                default: return i + j < elements ? i + j : i + j - elements;
            }
        }

        private int factorByKind(int i, int j) {
            switch (kind) {
                case POINTS:
                case SCALED: return i == j ? 1 : 0;
                case TWIST: return i + j < elements ? 1 : figure;
                case GRADED: return (i & j) != 0 ? 0 : signed(1, isOdd(lesserPairs(i, j)));
                default: return 1;
            }
        }

        /** How many pairs there are of a bit of i and a lesser bit of j. */
        private static int lesserPairs(int i, int j) {
            int pairs = 0;
            for (int bit = 0; bit < 2; bit++) {
                if ((i >> bit & 1) == 1) {
                    pairs += Integer.bitCount(j & (1 << bit) - 1);
                }
            }
            return pairs;
        }

        private static int signed(int n, boolean other) {
            return other && n != 0 ? PRIME - n : n;
        }

        /**
         * In every kind FORM has just one number other than 0 in each row and in each column, and none of these is a
         * multiple of 9973: so what turns it about has the inverse of FORM (j, i) at (i, j), where that is not 0.
         */
        private void makeTurned() {
            for (int i = 0; i < elements; i++) {
                for (int j = 0; j < elements; j++) {
                    int form = formOf(j, i);
                    turned[at(i, j)] = form == 0 ? 0 : inverse(form);
                }
            }
        }

        private void makeHandleAndCross() {
            for (int k = 0; k < elements; k++) {
                handle[k] = 0;
                cross[k] = 0;
            }
            for (int i = 0; i < elements; i++) {
                for (int j = 0; j < elements; j++) {
                    int k = target[at(i, j)];
                    handle[k] = plusTimes(handle[k], turned[at(i, j)], factor[at(i, j)]);
                }
                int k = target[at(i, i)];
                cross[k] = plusTimes(cross[k], 1, factor[at(i, i)]);
            }
        }

        private int at(int i, int j) {
            return i * elements + j;
        }

        boolean has(int element) {
            return element >= 0 && element < elements;
        }

        int timesInProduct(int i, int j, int k) {
            return target[at(i, j)] == k ? factor[at(i, j)] : 0;
        }

        int formOf(int i, int j) {
            return plusTimes(0, factor[at(i, j)], trace[target[at(i, j)]]);
        }

        int turnedOf(int i, int j) {
            return turned[at(i, j)];
        }

        int timesInSplit(int e, int j, int k) {
            int times = 0;
            for (int i = 0; i < elements; i++) {
                if (target[at(e, i)] == j) {
                    times = plusTimes(times, turned[at(i, k)], factor[at(e, i)]);
                }
            }
            return times;
        }

        int closedBy(int h, int c) {
            for (int i = 0; i < elements; i++) {
                standing[i] = one[i];
            }
            for (int n = 0; n < h; n++) {
                multiplyStanding(handle);
            }
            for (int n = 0; n < c; n++) {
                multiplyStanding(cross);
            }
            int result = 0;
            for (int i = 0; i < elements; i++) {
                result = plusTimes(result, standing[i], trace[i]);
            }
            return result;
        }

        private void multiplyStanding(int[] by) {
            for (int k = 0; k < elements; k++) {
                spare[k] = 0;
            }
            for (int i = 0; i < elements; i++) {
                for (int j = 0; j < elements; j++) {
                    int k = target[at(i, j)];
                    int both = plusTimes(0, standing[i], by[j]);
                    spare[k] = plusTimes(spare[k], both, factor[at(i, j)]);
                }
            }
            int[] swapped = standing;
            standing = spare;
            spare = swapped;
        }

        /** Whether an exchange of two elements gives the other sign. */
        boolean turnsSign(int i, int j) {
            return kind == GRADED && isOdd(Integer.bitCount(i)) && isOdd(Integer.bitCount(j));
        }
    }

    /** A row of pieces, each of which can stand where it is. */
    private static final class Surface {
        private final int[] pieces = new int[MOST_PIECES];
        private int size, circles;

        /** Whether the piece came: it does, if it can stand and there is room. */
        boolean append(int piece) {
            if (size >= MOST_PIECES || !canStand(piece, circles)) {
                return false;
            }
            pieces[size] = piece;
            size++;
            circles += ADDS[piece];
            return true;
        }

        void keepFirst(int k) {
            size = Math.max(0, Math.min(size, k));
            circles = 0;
            for (int i = 0; i < size; i++) {
                circles += ADDS[pieces[i]];
            }
        }

        void copyFrom(Surface other) {
            size = other.size;
            circles = other.circles;
            System.arraycopy(other.pieces, 0, pieces, 0, MOST_PIECES);
        }

        private int mostCirclesEver() {
            int most = 0;
            int now = 0;
            for (int i = 0; i < size; i++) {
                now += ADDS[pieces[i]];
                most = Math.max(most, now);
            }
            return most;
        }

        /** STATE, FULL, or 0, if the other one can be glued to this one. */
        int glueFault(Surface other) {
            if (circles + other.mostCirclesEver() > MOST_CIRCLES) {
                return STATE;
            }
            return size + other.size > MOST_PIECES ? FULL : 0;
        }

        void glueOn(Surface other) {
            // The other one may be this one, which grows as it is glued.
            int more = other.size;
            for (int i = 0; i < more; i++) {
                append(other.pieces[i]);
            }
        }

        void drawMore(int n, int seed) {
            int z = seed;
            for (int i = 0; i < n; i++) {
                z = z * 1103515245 + 12345;
                append((z >>> 16) % KINDS_OF_PIECES);
            }
        }
    }

    /** The parts of the surface that was last looked at, numbered by their first discs. */
    private static final class Parts {
        private int size, circles;
        private final int[] euler = new int[MOST_PIECES];
        private final int[] rims = new int[MOST_PIECES];
        private final boolean[] oneSided = new boolean[MOST_PIECES];
        private final int[] ofCircle = new int[MOST_CIRCLES];
        /** Parts that another one has swallowed, while the pieces are gone through. */
        private final boolean[] gone = new boolean[MOST_PIECES];
        private final boolean[] given = new boolean[MOST_PIECES];

        void find(Surface surface) {
            size = 0;
            circles = 0;
            for (int i = 0; i < surface.size; i++) {
                step(surface.pieces[i]);
            }
            leaveOutGone();
            for (int k = 0; k < size; k++) {
                rims[k] = 0;
            }
            for (int i = 0; i < circles; i++) {
                rims[ofCircle[i]]++;
            }
        }

        private void step(int piece) {
            if (!canStand(piece, circles)) {
                return;
            }
            switch (piece) {
                case DISC: begin(); break;
                case PANTS: join(ofCircle[circles - 2], ofCircle[circles - 1]); break;
                case SPLIT: ofCircle[circles] = ofCircle[circles - 1]; break;
                case EXCHANGE: exchangeLast(); break;
                case CROSSCAP: oneSided[ofCircle[circles - 1]] = true; break;
                default: break;
            }
            // Pants and caps count for the part of the last circle there was, the others for that of the last there is.
            int last = Math.max(circles, circles + ADDS[piece]) - 1;
            euler[ofCircle[last]] += EULER[piece];
            circles += ADDS[piece];
        }

        private void begin() {
            if (size >= MOST_PIECES) {
                return;
            }
            euler[size] = 0;
            oneSided[size] = false;
            gone[size] = false;
            ofCircle[circles] = size;
            size++;
        }

        /** The one with the lesser number stays: its first disc comes first. */
        private void join(int one, int other) {
            if (one == other) {
                return;
            }
            int stays = Math.min(one, other);
            int goes = Math.max(one, other);
            euler[stays] += euler[goes];
            oneSided[stays] = oneSided[stays] || oneSided[goes];
            gone[goes] = true;
            renumber(goes, stays);
        }

        private void renumber(int was, int becomes) {
            for (int i = 0; i < circles; i++) {
                if (ofCircle[i] == was) {
                    ofCircle[i] = becomes;
                }
            }
        }

        private void exchangeLast() {
            int last = ofCircle[circles - 1];
            ofCircle[circles - 1] = ofCircle[circles - 2];
            ofCircle[circles - 2] = last;
        }

        private void leaveOutGone() {
            int kept = 0;
            for (int k = 0; k < size; k++) {
                if (!gone[k]) {
                    euler[kept] = euler[k];
                    oneSided[kept] = oneSided[k];
                    // Numbers only become less, in order: none is met twice.
                    renumber(k, kept);
                    kept++;
                }
            }
            size = kept;
        }

        int genus(int k) {
            int twice = 2 - euler[k] - rims[k];
            return oneSided[k] ? twice : twice / 2;
        }

        int withoutRims() {
            int without = 0;
            for (int k = 0; k < size; k++) {
                without += rims[k] == 0 ? 1 : 0;
            }
            return without;
        }

        int eulerOfAll() {
            int all = 0;
            for (int k = 0; k < size; k++) {
                all += euler[k];
            }
            return all;
        }

        private boolean areAlike(int k, Parts others, int m) {
            return rims[k] == others.rims[m] && euler[k] == others.euler[m] && oneSided[k] == others.oneSided[m];
        }

        int unlike() {
            int classes = 0;
            for (int k = 0; k < size; k++) {
                classes += hasAlikeBefore(k) ? 0 : 1;
            }
            return classes;
        }

        private boolean hasAlikeBefore(int k) {
            for (int m = 0; m < k; m++) {
                if (areAlike(k, this, m)) {
                    return true;
                }
            }
            return false;
        }

        /** Any alike part will do: parts alike to one are alike to each other. */
        int matched(Parts others) {
            int pairs = 0;
            for (int m = 0; m < others.size; m++) {
                given[m] = false;
            }
            for (int k = 0; k < size; k++) {
                int m = 0;
                while (m < others.size && (given[m] || !areAlike(k, others, m))) {
                    m++;
                }
                if (m < others.size) {
                    given[m] = true;
                    pairs++;
                }
            }
            return pairs;
        }
    }

    /** The sum of the surface that was last summed: a number for each place. */
    private static final class Sums {
        private int[] numbers = new int[MOST_PLACES];
        private int[] next = new int[MOST_PLACES];
        /** How many places there are of 0 .. 3 circles. */
        private final int[] powers = new int[MOST_CIRCLES + 1];
        private int circles, elements;

        void find(Surface surface, Algebra algebra) {
            elements = algebra.elements;
            powers[0] = 1;
            for (int i = 1; i <= MOST_CIRCLES; i++) {
                powers[i] = powers[i - 1] * elements;
            }
            circles = 0;
            numbers[0] = 1;
            for (int i = 0; i < surface.size; i++) {
                step(surface.pieces[i], algebra);
            }
        }

        private void step(int piece, Algebra algebra) {
            if (!canStand(piece, circles)) {
                return;
            }
            int places = powers[circles + ADDS[piece]];
            for (int i = 0; i < places; i++) {
                next[i] = 0;
            }
            switch (piece) {
                case DISC: putOne(algebra); break;
                case PANTS: putProducts(algebra); break;
                case SPLIT: putSplits(algebra); break;
                case CAP: putTraces(algebra); break;
                case EXCHANGE: putExchanged(algebra); break;
                case HANDLE: putTimes(algebra, algebra.handle); break;
                default: putTimes(algebra, algebra.cross); break;
            }
            circles += ADDS[piece];
            int[] swapped = numbers;
            numbers = next;
            next = swapped;
        }

        /** In these, i is the place on the circles that stay as they are, unit how many such places there are. */
        private void putOne(Algebra algebra) {
            int unit = powers[circles];
            for (int e = 0; e < elements; e++) {
                for (int i = 0; i < unit; i++) {
                    add(i + unit * e, numbers[i], algebra.one[e]);
                }
            }
        }

        private void putProducts(Algebra algebra) {
            int unit = powers[circles - 2];
            for (int a = 0; a < elements; a++) {
                for (int b = 0; b < elements; b++) {
                    int at = algebra.at(a, b);
                    for (int i = 0; i < unit; i++) {
                        add(i + unit * algebra.target[at], numbers[pair(i, unit, a, b)], algebra.factor[at]);
                    }
                }
            }
        }

        private void putSplits(Algebra algebra) {
            int unit = powers[circles - 1];
            for (int e = 0; e < elements; e++) {
                for (int j = 0; j < elements; j++) {
                    for (int k = 0; k < elements; k++) {
                        int times = algebra.timesInSplit(e, j, k);
                        // Most are 0: this is the dearest step of a sum.
                        for (int i = 0; times != 0 && i < unit; i++) {
                            add(pair(i, unit, j, k), numbers[i + unit * e], times);
                        }
                    }
                }
            }
        }

        private void putTraces(Algebra algebra) {
            int unit = powers[circles - 1];
            for (int e = 0; e < elements; e++) {
                for (int i = 0; i < unit; i++) {
                    add(i, numbers[i + unit * e], algebra.trace[e]);
                }
            }
        }

        private void putExchanged(Algebra algebra) {
            int unit = powers[circles - 2];
            for (int a = 0; a < elements; a++) {
                for (int b = 0; b < elements; b++) {
                    int sign = algebra.turnsSign(a, b) ? PRIME - 1 : 1;
                    for (int i = 0; i < unit; i++) {
                        add(pair(i, unit, b, a), numbers[pair(i, unit, a, b)], sign);
                    }
                }
            }
        }

        private void putTimes(Algebra algebra, int[] by) {
            int unit = powers[circles - 1];
            for (int e = 0; e < elements; e++) {
                for (int j = 0; j < elements; j++) {
                    int at = algebra.at(e, j);
                    int times = plusTimes(0, algebra.factor[at], by[j]);
                    for (int i = 0; i < unit; i++) {
                        add(i + unit * algebra.target[at], numbers[i + unit * e], times);
                    }
                }
            }
        }

        /** The place with a on the last circle but one, b on the last one. */
        private int pair(int i, int unit, int a, int b) {
            return i + unit * (a + elements * b);
        }

        private void add(int place, int number, int times) {
            next[place] = plusTimes(next[place], number, times);
        }

        int places() {
            return powers[circles];
        }

        boolean hasPlace(int place) {
            return place >= 0 && place < places();
        }

        int notZero() {
            int found = 0;
            for (int i = 0; i < places(); i++) {
                found += numbers[i] != 0 ? 1 : 0;
            }
            return found;
        }

        int firstNotZero() {
            for (int i = 0; i < places(); i++) {
                if (numbers[i] != 0) {
                    return i;
                }
            }
            return NOT;
        }

        int together() {
            int all = 0;
            for (int i = 0; i < places(); i++) {
                all = plusTimes(all, 1, numbers[i]);
            }
            return all;
        }

        boolean sameAs(Sums other) {
            if (circles != other.circles || elements != other.elements) {
                return false;
            }
            for (int i = 0; i < places(); i++) {
                if (numbers[i] != other.numbers[i]) {
                    return false;
                }
            }
            return true;
        }
    }

    /** Rows told by hand: what and v. */
    private static final class Plan {
        private final int[] whats = new int[MOST_ROWS];
        private final int[] values = new int[MOST_ROWS];
        private int size;

        static boolean canTell(int what, int v) {
            switch (what) {
                case 0: return v >= 0 && v < KINDS_OF_PIECES;
                case 1: return v >= 1 && v <= 9;
                case 2: return v >= 0 && v < MOST_SURFACES;
                default: return false;
            }
        }

        void append(int what, int v) {
            if (size >= MOST_ROWS) {
                return;
            }
            whats[size] = what;
            values[size] = v;
            size++;
        }

        void copyFrom(Plan other) {
            size = other.size;
            System.arraycopy(other.whats, 0, whats, 0, MOST_ROWS);
            System.arraycopy(other.values, 0, values, 0, MOST_ROWS);
        }
    }

    /** What an image holds: algebras, surfaces and the plan. */
    private static final class State {
        private final Algebra[] algebras = new Algebra[MOST_ALGEBRAS];
        private int algebraCount;
        private final Surface[] surfaces = new Surface[MOST_SURFACES];
        private final Plan plan = new Plan();

        State() {
            for (int i = 0; i < MOST_ALGEBRAS; i++) {
                algebras[i] = new Algebra();
            }
            for (int i = 0; i < MOST_SURFACES; i++) {
                surfaces[i] = new Surface();
            }
        }

        /** Null, if there is no such number. */
        Algebra algebraAt(int number) {
            return number < 0 || number >= algebraCount ? null : algebras[number];
        }

        /** Null, if there is no such number. */
        Surface surfaceAt(int number) {
            return number < 0 || number >= MOST_SURFACES ? null : surfaces[number];
        }

        void copyFrom(State other) {
            algebraCount = other.algebraCount;
            for (int i = 0; i < algebraCount; i++) {
                Algebra a = other.algebras[i];
                algebras[i].make(a.kind, a.size, a.figure);
            }
            for (int i = 0; i < MOST_SURFACES; i++) {
                surfaces[i].copyFrom(other.surfaces[i]);
            }
            plan.copyFrom(other.plan);
        }

        /** Surfaces that are glued come as they are in this state, whatever has been done to the one in thought. */
        void doPlan(Surface thought) {
            for (int i = 0; i < plan.size; i++) {
                doRow(plan.whats[i], plan.values[i], thought);
            }
        }

        private void doRow(int what, int v, Surface thought) {
            if (what == 0) {
                thought.append(v);
            } else if (what == 1) {
                thought.keepFirst(thought.size - v);
            } else {
                Surface glued = surfaceAt(v);
                if (glued != null && thought.glueFault(glued) == 0) {
                    thought.glueOn(glued);
                }
            }
        }

        int piecesOfAll() {
            int all = 0;
            for (int i = 0; i < MOST_SURFACES; i++) {
                all += surfaces[i].size;
            }
            return all;
        }
    }

    /** The bytes that tell a surface. */
    private static final class Tape {
        private final int[] bytes = new int[MOST_BYTES];
        private int size;

        void append(int letter) {
            if (size >= MOST_BYTES) {
                return;
            }
            bytes[size] = letter;
            size++;
        }

        /** The place of the fault, or NONE: then the surface is what the tape tells. */
        int readInto(Surface surface) {
            surface.keepFirst(0);
            int letterBefore = NONE;
            for (int i = 0; i < size; i++) {
                int piece = pieceByLetter(bytes[i]);
                boolean isLetter = piece != NONE;
                if (!isLetter && (letterBefore == NONE || !isTimes(bytes[i]))) {
                    return i;
                }
                // The letter has brought one of so many already.
                int more = isLetter ? 1 : bytes[i] - '0' - 1;
                if (!appendAll(surface, isLetter ? piece : letterBefore, more)) {
                    return i;
                }
                letterBefore = piece;
            }
            return size == 0 ? 0 : NONE;
        }

        private static boolean appendAll(Surface surface, int piece, int times) {
            for (int i = 0; i < times; i++) {
                if (!surface.append(piece)) {
                    return false;
                }
            }
            return true;
        }

        private static boolean isTimes(int letter) {
            return letter >= '2' && letter <= '9';
        }

        private static int pieceByLetter(int letter) {
            for (int piece = 0; piece < KINDS_OF_PIECES; piece++) {
                if (LETTERS[piece] == letter) {
                    return piece;
                }
            }
            return NONE;
        }
    }

    /** Rows of ints, each of which may hold nothing. */
    private static final class Lists {
        private final int[][] rows = new int[MOST_LISTS][LONGEST_LIST];
        /** -1: nothing is held. */
        private final int[] sizes = new int[MOST_LISTS];

        Lists() {
            for (int i = 0; i < MOST_LISTS; i++) {
                sizes[i] = -1;
            }
        }

        boolean hasNumber(int list) {
            return list >= 0 && list < MOST_LISTS;
        }

        boolean isHeld(int list) {
            return hasNumber(list) && sizes[list] >= 0;
        }

        boolean hasPlace(int list, int i) {
            return isHeld(list) && i >= 0 && i < sizes[list];
        }

        void hold(int list, int n) {
            if (!hasNumber(list) || n < 0 || n > LONGEST_LIST) {
                return;
            }
            sizes[list] = n;
            for (int i = 0; i < n; i++) {
                rows[list][i] = 0;
            }
        }
    }
}
