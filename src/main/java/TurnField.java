/** Nimbers as a field, and games of turned coins, as ../shared/DOC.md promises them. */
public final class TurnField {
    public static final int NONE = -1;

    /** What a call answers that is in order, but cannot be done. */
    private static final int CANNOT = -2;

    /** More than there ever are. */
    private static final int ALL_OF_THEM = 1 << 30;

    private final Position now;
    private final Past past;
    private final Position[] shelves;
    private final Tape tape;
    private final Play finder;
    private final Lengths lengths;
    private final Span span;
    private final Steps steps;
    private final Polynomials polynomials;
    private final Curve curve;

    public TurnField() {
        now = new Position();
        past = new Past();
        shelves = new Position[2];
        for (int i = 0; i < shelves.length; i++) {
            shelves[i] = new Position();
        }
        tape = new Tape();
        finder = new Play();
        lengths = new Lengths();
        span = new Span();
        steps = new Steps();
        polynomials = new Polynomials();
        curve = new Curve();
    }

    // ---- the tape, and the board that it tells

    public int feed(int a, int b, int c, int d, int e) {
        if (!tape.hasRoom(20)) {
            return NONE;
        }
        tape.append(a);
        tape.append(b);
        tape.append(c);
        tape.append(d);
        tape.append(e);
        return tape.length;
    }

    public int end(int n) {
        if (n < 0 || n > tape.length) {
            return NONE;
        }
        tape.length = n;
        return n;
    }

    public int tell() {
        int fault = tape.read();
        tape.length = 0;
        if (fault != 0) {
            return -2 - fault;
        }
        past.push(now);
        now.becomeBoard(tape.draft);
        return now.headsShown();
    }

    // ---- acts on the board

    public int turn(int row, int column) {
        if (!now.hasCell(row, column)) {
            return NONE;
        }
        past.push(now);
        now.heads ^= Position.bitOf(row, column);
        return now.headsShown();
    }

    public int play(int rows, int columns) {
        if (rows <= 0 || columns <= 0 || rows >= 1 << now.rows || columns >= 1 << now.columns) {
            return NONE;
        }
        finder.tune(now);
        if (!finder.mayBe(now, rows, columns)) {
            return CANNOT;
        }
        return played(rows, columns);
    }

    private int played(int rows, int columns) {
        past.push(now);
        now.heads ^= Position.bitsOf(rows, columns);
        return now.headsShown();
    }

    public int answer() {
        finder.tune(now);
        int wins = finder.find(now, true, 0) ? 1 : 0;
        if (wins == 0 && !finder.find(now, false, 0)) {
            return CANNOT;
        }
        played(finder.foundRows, finder.foundColumns);
        return wins;
    }

    // ---- acts on the places

    public int put(int place, long number) {
        if (!Position.hasPlace(place)) {
            return NONE;
        }
        if (now.places[place] == number) {
            return CANNOT;
        }
        past.push(now);
        now.places[place] = number;
        return 1;
    }

    public int reckon(int place, int x, int y, int how) {
        if (how < 0 || how > 4 || !Position.hasPlace(place) || !Position.hasPlace(x)) {
            return NONE;
        }
        if (how != 3 && !Position.hasPlace(y)) {
            return NONE;
        }
        long first = now.places[x];
        long second = Position.hasPlace(y) ? now.places[y] : 0L;
        if (how == 2 && second == 0L) {
            return CANNOT;
        }
        past.push(now);
        now.places[place] = reckoned(first, second, how);
        return 1;
    }

    private static long reckoned(long x, long y, int how) {
        switch (how) {
            case 0:
                return x ^ y;
            case 1:
                return Numbers.product(x, y);
            case 2:
                return Numbers.product(x, Numbers.inverted(y));
            case 3:
                return Numbers.rootOf(x);
            default:
                return Numbers.raisedTo(x, y);
        }
    }

    // ---- undone, kept

    public int undo() {
        if (past.depth == 0) {
            return NONE;
        }
        past.pop(now);
        return past.depth;
    }

    public int keep(int shelf) {
        if (!hasShelf(shelf)) {
            return NONE;
        }
        shelves[shelf].become(now);
        shelves[shelf].kept = true;
        return now.headsShown();
    }

    public int back(int shelf) {
        if (!hasShelf(shelf)) {
            return NONE;
        }
        if (!shelves[shelf].kept) {
            return CANNOT;
        }
        past.push(now);
        now.become(shelves[shelf]);
        return now.headsShown();
    }

    private boolean hasShelf(int shelf) {
        return shelf >= 0 && shelf < shelves.length;
    }

    // ---- the grid

    public int grid(int rows, int columns) {
        if (rows < 1 || rows > 4 || columns < 1 || columns > 4) {
            return NONE;
        }
        past.push(now);
        now.clearGrid(rows, columns);
        return rows * columns;
    }

    public int enter(int row, int column, long number) {
        if (!now.hasEntry(row, column)) {
            return NONE;
        }
        if (now.entryAt(row, column) == number) {
            return CANNOT;
        }
        past.push(now);
        now.setEntry(row, column, number);
        return 1;
    }

    public int multiply(int shelf) {
        if (!hasShelf(shelf) || !shelves[shelf].kept) {
            return NONE;
        }
        Position other = shelves[shelf];
        if (now.gridColumns != other.gridRows) {
            return CANNOT;
        }
        past.push(now);
        Position before = past.last();
        now.clearGrid(before.gridRows, other.gridColumns);
        for (int i = 0; i < now.gridRows; i++) {
            for (int k = 0; k < now.gridColumns; k++) {
                now.setEntry(i, k, sharedOut(before, i, other, k));
            }
        }
        return now.gridRows * now.gridColumns;
    }

    private static long sharedOut(Position left, int row, Position right, int column) {
        long sum = 0L;
        for (int j = 0; j < left.gridColumns; j++) {
            sum ^= Numbers.product(left.entryAt(row, j), right.entryAt(j, column));
        }
        return sum;
    }

    public int invert() {
        if (now.gridRows != now.gridColumns || !steps.reduceBesideUnit(now)) {
            return CANNOT;
        }
        past.push(now);
        for (int i = 0; i < now.gridRows; i++) {
            for (int k = 0; k < now.gridColumns; k++) {
                now.setEntry(i, k, steps.cellAt(i, now.gridColumns + k));
            }
        }
        return 1;
    }

    public long entry(int row, int column, int what) {
        if (!now.hasEntry(row, column) || what < 0 || what > 1) {
            return 0L;
        }
        if (what == 0) {
            return now.entryAt(row, column);
        }
        steps.reduceGrid(now);
        return steps.cellAt(row, column);
    }

    public long determinant() {
        if (now.gridRows != now.gridColumns) {
            return 0L;
        }
        steps.reduceGrid(now);
        return steps.rank < now.gridRows ? 0L : steps.pivots;
    }

    public int shape(int what) {
        switch (what) {
            case 0:
                return now.gridRows;
            case 1:
                return now.gridColumns;
            case 2:
                steps.reduceGrid(now);
                return steps.rank;
            case 3:
                steps.reduceGrid(now);
                return steps.hasLead(now.gridColumns - 1) ? CANNOT : now.gridColumns - 1 - steps.rank;
            default:
                return NONE;
        }
    }

    public long solution(int k) {
        int last = now.gridColumns - 1;
        steps.reduceGrid(now);
        return steps.hasLead(last) ? 0L : steps.besideLead(k, last);
    }

    // ---- the places as polynomials

    public int roots(int level, int k) {
        if (level < 0 || level > 4 || k < NONE) {
            return NONE;
        }
        if (Polynomials.degreeOf(now.places) < 0) {
            int all = 1 << (1 << level);
            return k == NONE ? all : k < all ? k : CANNOT;
        }
        polynomials.findRoots(now.places, level);
        return k == NONE ? polynomials.found : polynomials.rootAt(k);
    }

    public long common(int k) {
        polynomials.meetHalves(now.places);
        return polynomials.metCoefficient(k);
    }

    public long mended(int k) {
        curve.mend(now.places);
        return curve.coefficient(k);
    }

    public long mendedAt(long x) {
        curve.mend(now.places);
        return curve.mendedValue(x);
    }

    public int agrees(int what) {
        if (what < 0 || what > 1) {
            return NONE;
        }
        curve.mend(now.places);
        if (!curve.isMended()) {
            return CANNOT;
        }
        return what == 0 ? Integer.bitCount(curve.agreeing) : 255 ^ curve.agreeing;
    }

    public long place(int place) {
        return Position.hasPlace(place) ? now.places[place] : 0L;
    }

    public long at(long x, int what) {
        if (what == 0) {
            return Polynomials.valueAt(now.places, x);
        }
        return what == 1 ? curve.through(now.places, x) : 0L;
    }

    // ---- numbers

    public long full(int level, int what) {
        if (level < 0 || level > 6 || what < 0 || what > 1) {
            return NONE;
        }
        return what == 0 ? Numbers.leastFull(level) : Numbers.fullCount(level);
    }

    public long times(long a, long b) {
        return Numbers.product(a, b);
    }

    public long inverse(long a) {
        return Numbers.inverted(a);
    }

    public long root(long a) {
        return Numbers.rootOf(a);
    }

    public long power(long a, long n) {
        if (n >= 0L) {
            return Numbers.raisedTo(a, n);
        }
        return Numbers.inverted(Numbers.raisedTo(a, -n));
    }

    public long order(long a) {
        return Numbers.orderOf(a);
    }

    public int level(long a, int what) {
        if (what < 0 || what > 1) {
            return NONE;
        }
        int level = Numbers.levelOf(a);
        return what == 0 ? level : 1 << level;
    }

    public long least(long a) {
        return span.leastPolynomial(a);
    }

    public int trace(long a, int level) {
        if (level < 0 || level > 6 || Numbers.levelOf(a) > level) {
            return NONE;
        }
        return Numbers.traceOf(a, level);
    }

    public long half(long a) {
        return Numbers.hasHalf(a) ? Numbers.halved(a) : 0L;
    }

    public long solve(long p, long q, int what) {
        if (what < 0 || what > 2) {
            return 0L;
        }
        if (p == 0L) {
            return what == 0 ? 1L : Numbers.rootOf(q);
        }
        long ratio = Numbers.product(q, Numbers.inverted(Numbers.square(p)));
        if (!Numbers.hasHalf(ratio)) {
            return 0L;
        }
        if (what == 0) {
            return 2L;
        }
        long one = Numbers.product(p, Numbers.halved(ratio));
        long other = one ^ p;
        return Numbers.below(one, other) == (what == 1) ? one : other;
    }

    public int log(long a, long base) {
        if (Numbers.levelOf(a) > 4 || Numbers.levelOf(base) > 4) {
            return CANNOT;
        }
        return Numbers.logarithm(a, base);
    }

    // ---- what the board says

    public long boards(int what) {
        if (what < 0 || what > 2) {
            return NONE;
        }
        if (!Lengths.canHold(now)) {
            return CANNOT;
        }
        lengths.tune(now, finder);
        switch (what) {
            case 0:
                return lengths.lost;
            case 1:
                return lengths.greatest;
            default:
                return lengths.spread(lengths.firstGreatest);
        }
    }

    public int game(int what) {
        if (what < 0 || what > 1) {
            return NONE;
        }
        if (!Lengths.canHold(now)) {
            return CANNOT;
        }
        lengths.tune(now, finder);
        int length = lengths.lengthOf(now);
        return what == 0 ? length & 1 : length;
    }

    public int worth(int side, int n) {
        if (side < 0 || side > 1) {
            return NONE;
        }
        finder.tune(now);
        return finder.ruleOf(side).worthOf(n);
    }

    public int cell(int row, int column, int what) {
        if (!now.hasCell(row, column) || what < 0 || what > 2) {
            return NONE;
        }
        if (what == 2) {
            return now.showsHeads(row, column) ? 1 : 0;
        }
        // what is least excluded is the product too: both rules only ask for heads of the
        // greatest coin, so the theorem on products of such games (Tartan) holds
        finder.tune(now);
        return finder.effectOf(1 << row, 1 << column);
    }

    public long total() {
        finder.tune(now);
        return finder.boardWorth(now);
    }

    public int moves(int what) {
        if (what < 0 || what > 1) {
            return NONE;
        }
        finder.tune(now);
        finder.find(now, what == 1, ALL_OF_THEM);
        return finder.passed;
    }

    public int move(int which, int k, int what) {
        if (which < 0 || which > 1 || k < 0 || what < 1 || what > 3) {
            return NONE;
        }
        finder.tune(now);
        if (!finder.find(now, which == 1, k)) {
            return CANNOT;
        }
        if (what == 3) {
            return finder.boardWorth(now) ^ finder.effectOf(finder.foundRows, finder.foundColumns);
        }
        return what == 1 ? finder.foundRows : finder.foundColumns;
    }

    public int sets(int side, int n) {
        if (side < 0 || side > 1) {
            return NONE;
        }
        finder.tune(now);
        return finder.ruleOf(side).setsOf(n);
    }

    public int count(int what) {
        switch (what) {
            case 0:
                return now.rows;
            case 1:
                return now.columns;
            case 2:
                return now.rowKind;
            case 3:
                return now.columnKind;
            case 4:
                return now.rowLimit;
            case 5:
                return now.columnLimit;
            case 6:
                return now.headsShown();
            case 7:
                return past.depth;
            case 8:
                return tape.length;
            case 9:
                return (shelves[0].kept ? 1 : 0) | (shelves[1].kept ? 2 : 0);
            case 10:
                return now.rowsWithHeads();
            case 11:
                return now.columnsWithHeads();
            default:
                return NONE;
        }
    }

    /** The field of numbers of 64 bits. */
    private static final class Numbers {
        private static final long HIGHEST = 1L << 63;

        /** The lower half of each block of twice 2 to the k bits. */
        private static final long[] LOW = {
            0x5555555555555555L, 0x3333333333333333L, 0x0F0F0F0F0F0F0F0FL,
            0x00FF00FF00FF00FFL, 0x0000FFFF0000FFFFL, 0x00000000FFFFFFFFL
        };

        /** How many numbers of a level are not 0 is the product of the first of these, each once. */
        private static final long[] PRIMES = {3L, 5L, 17L, 257L, 65537L, 641L, 6700417L};

        static boolean below(long a, long b) {
            return (a ^ HIGHEST) < (b ^ HIGHEST);
        }

        static int levelOf(long a) {
            for (int k = 0; k < 6; k++) {
                if (a >>> (1 << k) == 0L) {
                    return k;
                }
            }
            return 6;
        }

        static long product(long x, long y) {
            return below(x, y) ? sharedOut(y, x, 6) : sharedOut(x, y, 6);
        }

        /** x times y, y below 2 to the 2 to the k. */
        private static long sharedOut(long x, long y, int k) {
            if (y == 0L) {
                return 0L;
            }
            if (y == 1L || k <= 0 || k > 6) {
                return x;
            }
            int n = 1 << (k - 1);
            long high = y >>> n;
            if (high == 0L) {
                return sharedOut(x, y, k - 1);
            }
            long low = y & LOW[k - 1];
            return sharedOut(x, low, k - 1) ^ lifted(sharedOut(x, high, k - 1), k - 1);
        }

        /**
         * x times F, 2 to the 2 to the k (k 0 to 5). In each block h F and l it is
         * (h and l) F and h times half of F.
         */
        private static long lifted(long x, int k) {
            if (x == 0L || k < 0 || k > 5) {
                return x;
            }
            long h = (x >>> (1 << k)) & LOW[k];
            long l = x & LOW[k];
            return ((h ^ l) << (1 << k)) ^ toppedBy(h, k);
        }

        /** x times half of F, F 2 to the 2 to the k: times all lesser F, therefore no deeper than k. */
        private static long toppedBy(long x, int k) {
            long y = x;
            for (int j = 0; j < k; j++) {
                y = lifted(y, j);
            }
            return y;
        }

        static long square(long x) {
            long y = x;
            for (int k = 0; k < 6; k++) {
                y ^= toppedBy((y >>> (1 << k)) & LOW[k], k);
            }
            return y;
        }

        /** Each step of square() undoes itself: so the same ones backwards. */
        static long rootOf(long x) {
            long y = x;
            for (int k = 5; k >= 0; k--) {
                y ^= toppedBy((y >>> (1 << k)) & LOW[k], k);
            }
            return y;
        }

        /**
         * Of h F and l: the other one of its pair, h F and h and l, by the inverse of both
         * together, which has a lesser level: so down to level 0.
         */
        static long inverted(long a) {
            long inverse = 1L;
            long rest = a;
            for (int k = 5; k >= 0; k--) {
                long h = rest >>> (1 << k);
                if (h != 0L) {
                    long l = rest & LOW[k];
                    inverse = sharedOut(inverse, rest ^ h, k + 1);
                    rest = sharedOut(l, l ^ h, k) ^ toppedBy(square(h), k);
                }
            }
            return rest == 0L ? 0L : inverse;
        }

        /** Only then is a the sum of a square and its root within 64 bits. */
        static boolean hasHalf(long a) {
            return a >= 0L;
        }

        static long halved(long a) {
            return halvedIn(a, 6);
        }

        /**
         * The lesser y whose square, and it, are a: of p F and q the higher half is
         * p p and p, the lower one p p times half of F, and q q and q.
         */
        private static long halvedIn(long a, int k) {
            if (a == 0L || k <= 0 || k > 6) {
                return 0L;
            }
            int n = 1 << (k - 1);
            long h = a >>> n;
            long p = halvedIn(h, k - 1);
            long t = (a & LOW[k - 1]) ^ toppedBy(p ^ h, k - 1);
            if ((t >>> (n - 1) & 1L) != 0L) {
                p ^= 1L;
                t ^= 1L << (n - 1);
            }
            return p << n | halvedIn(t, k - 1);
        }

        /** The sum of all conjugates in a level is the number's highest bit there. */
        static int traceOf(long a, int level) {
            return (int) (a >>> ((1 << level) - 1) & 1L);
        }

        static long raisedTo(long a, long n) {
            long power = 1L;
            for (int i = 63; i >= 0; i--) {
                if (power != 1L) {
                    power = square(power);
                }
                if ((n >>> i & 1L) != 0L) {
                    power = product(power, a);
                }
            }
            return power;
        }

        private static int primesIn(int level) {
            return level < 6 ? level : PRIMES.length;
        }

        /** The power by all primes of a level but one. */
        private static long powerWithout(long a, int level, int without) {
            long power = a;
            for (int i = 0; i < primesIn(level); i++) {
                if (i != without) {
                    power = raisedTo(power, PRIMES[i]);
                }
            }
            return power;
        }

        static long orderOf(long a) {
            if (a == 0L) {
                return 0L;
            }
            int level = levelOf(a);
            long order = 1L;
            for (int i = 0; i < primesIn(level); i++) {
                if (powerWithout(a, level, i) != 1L) {
                    order *= PRIMES[i];
                }
            }
            return order;
        }

        static long fullCount(int level) {
            long howMany = 1L;
            for (int i = 0; i < primesIn(level); i++) {
                howMany *= PRIMES[i] - 1L;
            }
            return howMany;
        }

        static long leastFull(int level) {
            if (level <= 0) {
                return 1L;
            }
            long first = 1L << (1 << (level - 1));
            for (int i = 0; i < 1000000; i++) {
                if (isFull(first + i, level)) {
                    return first + i;
                }
            }
            return 0L;
        }

        private static boolean isFull(long a, int level) {
            for (int i = 0; i < primesIn(level); i++) {
                if (powerWithout(a, level, i) == 1L) {
                    return false;
                }
            }
            return true;
        }

        /** Of numbers of level 4 at most. */
        static int logarithm(long a, long base) {
            if (a == 1L) {
                return 0;
            }
            if (a == 0L || base == 0L) {
                return a == base ? 1 : NONE;
            }
            long order = orderOf(base);
            if (raisedTo(a, order) != 1L) {
                return NONE;
            }
            long n = 0L;
            long modulus = 1L;
            for (int i = 0; i < 4; i++) {
                long prime = PRIMES[i];
                if (prime > 0L && order % prime == 0L) {
                    long part = order / prime;
                    long rest = restOf(raisedTo(a, part), raisedTo(base, part), prime);
                    n = joined(n, modulus, rest, prime);
                    modulus *= prime;
                }
            }
            return (int) n;
        }

        private static long restOf(long a, long base, long prime) {
            long power = 1L;
            for (long n = 0L; n < prime; n++) {
                if (power == a) {
                    return n;
                }
                power = product(power, base);
            }
            return 0L;
        }

        /** The least number that leaves n by the modulus, rest by the prime. */
        private static long joined(long n, long modulus, long rest, long prime) {
            long both = n;
            for (long i = 0L; i < prime; i++) {
                if (both % prime == rest) {
                    return both;
                }
                both += modulus;
            }
            return both;
        }
    }

    /** The powers of a number as vectors of bits, to find the first that is a sum of those before. */
    private static final class Span {
        private final long[] vectors = new long[64];
        private final long[] tags = new long[64];

        long leastPolynomial(long a) {
            clear();
            int degree = 1 << Numbers.levelOf(a);
            long power = 1L;
            for (int i = 0; i < degree; i++) {
                add(power, 1L << i);
                power = Numbers.product(power, a);
            }
            return tagOf(power);
        }

        private void clear() {
            for (int i = 0; i < vectors.length; i++) {
                vectors[i] = 0L;
            }
        }

        private void add(long number, long tag) {
            long vector = number;
            long sum = tag;
            for (int i = 63; i >= 0; i--) {
                if ((vector >>> i & 1L) != 0L) {
                    if (vectors[i] == 0L) {
                        vectors[i] = vector;
                        tags[i] = sum;
                        return;
                    }
                    vector ^= vectors[i];
                    sum ^= tags[i];
                }
            }
        }

        private long tagOf(long number) {
            long vector = number;
            long sum = 0L;
            for (int i = 63; i >= 0; i--) {
                if ((vector >>> i & 1L) != 0L) {
                    vector ^= vectors[i];
                    sum ^= tags[i];
                }
            }
            return sum;
        }
    }

    /** A rule, tuned to a kind and its K: what coins are worth by it. */
    private static final class Rule {
        private static final int COINS = 12;
        private static final int UP = 0;
        private static final int EXACT = 1;
        private static final int RULER = 2;
        private static final int NEAR = 3;

        private final int[] worths = new int[COINS];
        private final int[] setCounts = new int[COINS];
        /** The sum of worths by the coins of a set, as bits. */
        private final int[] sums = new int[1 << (COINS - 1)];
        /** Bits of the sums that were met; all of them are below 4096. */
        private final long[] met = new long[64];
        private int kind = -1;
        private int limit = 0;

        void tune(int newKind, int newLimit) {
            if (kind == newKind && limit == newLimit) {
                return;
            }
            kind = newKind;
            limit = newLimit;
            for (int n = 0; n < COINS; n++) {
                weigh(n);
            }
        }

        private void weigh(int n) {
            for (int i = 0; i < met.length; i++) {
                met[i] = 0L;
            }
            setCounts[n] = 0;
            int coin = 1 << n;
            for (int others = 0; others < coin; others++) {
                if (allows(coin | others)) {
                    setCounts[n]++;
                    met[sums[others] >> 6 & 63] |= 1L << (sums[others] & 63);
                }
            }
            worths[n] = leastUnmet();
            for (int others = 0; others < coin && n < COINS - 1; others++) {
                sums[coin | others] = sums[others] ^ worths[n];
            }
        }

        private int leastUnmet() {
            for (int i = 0; i < 4096; i++) {
                if ((met[i >> 6] >>> (i & 63) & 1L) == 0L) {
                    return i;
                }
            }
            return 0;
        }

        boolean allows(int set) {
            int coins = Integer.bitCount(set);
            switch (kind) {
                case UP:
                    return coins >= 1 && coins <= limit;
                case EXACT:
                    return coins == limit;
                case RULER:
                    return coins >= 1 && coins <= limit && (set & (set + (set & -set))) == 0;
                default:
                    return coins == 1 || coins == 2 && areNear(set);
            }
        }

        private boolean areNear(int pair) {
            int lower = pair & -pair;
            int upper = pair ^ lower;
            return lower << limit >= upper;
        }

        int worthOf(int n) {
            return n >= 0 && n < COINS ? worths[n] : NONE;
        }

        int setsOf(int n) {
            return n >= 0 && n < COINS ? setCounts[n] : NONE;
        }
    }

    /** All that can be kept or undone: the board, the places, the grid. */
    private static final class Position {
        /** A board's rows stand this many bits apart, a grid's rows GRID_STRIDE entries. */
        static final int STRIDE = 6;
        static final int GRID_STRIDE = 4;

        int rows = 3;
        int columns = 3;
        int rowKind = 0;
        int columnKind = 0;
        int rowLimit = 2;
        int columnLimit = 2;
        long heads = 0L;
        final long[] places = new long[8];
        int gridRows = 1;
        int gridColumns = 1;
        private final long[] entries = new long[GRID_STRIDE * GRID_STRIDE];
        boolean kept = false;

        void becomeBoard(Position other) {
            rows = other.rows;
            columns = other.columns;
            rowKind = other.rowKind;
            columnKind = other.columnKind;
            rowLimit = other.rowLimit;
            columnLimit = other.columnLimit;
            heads = other.heads;
        }

        void become(Position other) {
            becomeBoard(other);
            for (int i = 0; i < places.length; i++) {
                places[i] = other.places[i];
            }
            gridRows = other.gridRows;
            gridColumns = other.gridColumns;
            for (int i = 0; i < entries.length; i++) {
                entries[i] = other.entries[i];
            }
        }

        static boolean hasPlace(int place) {
            return place >= 0 && place < 8;
        }

        boolean hasCell(int row, int column) {
            return row >= 0 && row < rows && column >= 0 && column < columns;
        }

        static long bitOf(int row, int column) {
            return 1L << (STRIDE * row + column);
        }

        static long bitsOf(int rowSet, int columnSet) {
            long bits = 0L;
            for (int r = 0; r < STRIDE; r++) {
                if ((rowSet >> r & 1) != 0) {
                    bits |= (long) columnSet << (STRIDE * r);
                }
            }
            return bits;
        }

        boolean showsHeads(int row, int column) {
            return (heads & bitOf(row, column)) != 0L;
        }

        int headsShown() {
            return Long.bitCount(heads);
        }

        /** The heads of a row, as bits. */
        int headsOfRow(int row) {
            return (int) (heads >>> (STRIDE * row) & 63L);
        }

        int rowsWithHeads() {
            int set = 0;
            for (int r = 0; r < rows; r++) {
                set |= headsOfRow(r) != 0 ? 1 << r : 0;
            }
            return set;
        }

        int columnsWithHeads() {
            int set = 0;
            for (int r = 0; r < rows; r++) {
                set |= headsOfRow(r);
            }
            return set;
        }

        /** One number for size and rules: what depends on these alone need not be found anew. */
        int rulesKey() {
            int sizes = rows << 3 | columns;
            int kinds = rowKind << 2 | columnKind;
            return sizes << 12 | kinds << 8 | rowLimit << 4 | columnLimit;
        }

        boolean hasEntry(int row, int column) {
            return row >= 0 && row < gridRows && column >= 0 && column < gridColumns;
        }

        long entryAt(int row, int column) {
            return hasEntry(row, column) ? entries[GRID_STRIDE * row + column] : 0L;
        }

        void setEntry(int row, int column, long number) {
            if (hasEntry(row, column)) {
                entries[GRID_STRIDE * row + column] = number;
            }
        }

        void clearGrid(int newRows, int newColumns) {
            gridRows = newRows;
            gridColumns = newColumns;
            for (int i = 0; i < entries.length; i++) {
                entries[i] = 0L;
            }
        }
    }

    /** The last positions before acts, in a ring, the oldest of which is overwritten. */
    private static final class Past {
        private static final int MOST = 10;

        private final Position[] ring = new Position[MOST];
        private int next = 0;
        int depth = 0;

        Past() {
            for (int i = 0; i < ring.length; i++) {
                ring[i] = new Position();
            }
        }

        void push(Position position) {
            ring[next].become(position);
            next = next + 1 < MOST ? next + 1 : 0;
            depth = depth < MOST ? depth + 1 : MOST;
        }

        private int newest() {
            return next > 0 ? next - 1 : MOST - 1;
        }

        Position last() {
            return ring[newest()];
        }

        void pop(Position position) {
            if (depth > 0) {
                next = newest();
                depth--;
                position.become(ring[next]);
            }
        }
    }

    /** The bytes that were fed, and the reading of a board from them. */
    private static final class Tape {
        private static final int MOST = 120;
        private static final int CANNOT_STAND = 1;
        private static final int NOT_AS_TOLD = 2;
        private static final int TOO_MUCH = 1000;

        private final byte[] bytes = new byte[MOST];
        final Position draft = new Position();
        int length = 0;
        private int spot = 0;
        private int fault = 0;

        boolean hasRoom(int more) {
            return length + more <= MOST;
        }

        void append(int four) {
            for (int shift = 24; shift >= 0 && length < MOST; shift -= 8) {
                bytes[length] = (byte) (four >> shift);
                length++;
            }
        }

        /** The draft becomes what the tape tells: 0, or the fault. */
        int read() {
            spot = 0;
            fault = 0;
            draft.rows = readNumber(1, 6);
            draft.rowKind = readKind();
            draft.rowLimit = readNumber(1, 8);
            draft.columns = readNumber(1, 6);
            draft.columnKind = readKind();
            draft.columnLimit = readNumber(1, 8);
            draft.heads = 0L;
            for (int i = 0; i < MOST && fault == 0; i++) {
                skipBlanks();
                if (spot >= length) {
                    return 0;
                }
                readHeads();
            }
            return fault;
        }

        private void readHeads() {
            int start = spot;
            readWord();
            if (!isWord(start, "heads")) {
                blame(start, CANNOT_STAND);
            }
            int row = readNumber(0, draft.rows - 1);
            int column = readNumber(0, draft.columns - 1);
            if (fault == 0) {
                draft.heads |= Position.bitOf(row, column);
            }
        }

        private void blame(int where, int why) {
            if (fault == 0) {
                fault = 8 * where + why;
            }
        }

        private void skipBlanks() {
            while (spot < length && (bytes[spot] == ' ' || bytes[spot] == ';')) {
                spot++;
            }
        }

        private static boolean isBetween(byte sign, char low, char high) {
            return sign >= low && sign <= high;
        }

        /** Nothing more is read behind a fault: the first one along the text counts. */
        private int readNumber(int low, int high) {
            if (fault != 0) {
                return 0;
            }
            skipBlanks();
            int start = spot;
            int number = 0;
            while (spot < length && isBetween(bytes[spot], '0', '9')) {
                number = Math.min(TOO_MUCH, 10 * number + bytes[spot] - '0');
                spot++;
            }
            if (spot == start) {
                blame(start, CANNOT_STAND);
            } else if (number < low || number > high) {
                blame(start, NOT_AS_TOLD);
            }
            return number;
        }

        private int readKind() {
            if (fault != 0) {
                return 0;
            }
            skipBlanks();
            int start = spot;
            readWord();
            if (isWord(start, "up")) {
                return Rule.UP;
            }
            if (isWord(start, "exact")) {
                return Rule.EXACT;
            }
            if (isWord(start, "ruler")) {
                return Rule.RULER;
            }
            if (isWord(start, "near")) {
                return Rule.NEAR;
            }
            blame(start, CANNOT_STAND);
            return 0;
        }

        private void readWord() {
            while (spot < length && isBetween(bytes[spot], 'a', 'z')) {
                spot++;
            }
        }

        private boolean isWord(int start, String word) {
            if (spot - start != word.length()) {
                return false;
            }
            for (int i = 0; i < word.length(); i++) {
                if (bytes[start + i] != word.charAt(i)) {
                    return false;
                }
            }
            return true;
        }
    }

    /** The moves of a board: which may be, which win, in their order. */
    private static final class Play {
        private static final int SETS = 64;

        private final Rule rowRule = new Rule();
        private final Rule columnRule = new Rule();
        /** The worth of all cells that a move turns, by 64 times its rows, and its columns. */
        private final int[] effects = new int[SETS * SETS];
        private int tunedTo = -1;
        int foundRows = 0;
        int foundColumns = 0;
        int passed = 0;

        void tune(Position position) {
            int key = position.rulesKey();
            if (tunedTo == key) {
                return;
            }
            tunedTo = key;
            rowRule.tune(position.rowKind, position.rowLimit);
            columnRule.tune(position.columnKind, position.columnLimit);
            for (int r = 1; r < SETS; r <<= 1) {
                for (int c = 1; c < SETS; c <<= 1) {
                    long worth = Numbers.product(worthOfBit(rowRule, r), worthOfBit(columnRule, c));
                    effects[r * SETS + c] = (int) worth;
                }
            }
            joinEffects();
        }

        private static int worthOfBit(Rule rule, int bit) {
            return rule.worthOf(Integer.bitCount(bit - 1));
        }

        private void joinEffects() {
            for (int rows = 1; rows < SETS; rows++) {
                int row = rows & -rows;
                for (int columns = 1; columns < SETS; columns++) {
                    int column = columns & -columns;
                    if (rows != row) {
                        effects[rows * SETS + columns] = effectOf(row, columns) ^ effectOf(rows ^ row, columns);
                    } else if (columns != column) {
                        effects[rows * SETS + columns] = effectOf(row, column) ^ effectOf(row, columns ^ column);
                    }
                }
            }
        }

        int effectOf(int rows, int columns) {
            return effects[(rows & SETS - 1) * SETS + (columns & SETS - 1)];
        }

        Rule ruleOf(int side) {
            return side == 0 ? rowRule : columnRule;
        }

        int boardWorth(Position position) {
            int sum = 0;
            for (int r = 0; r < position.rows; r++) {
                sum ^= effectOf(1 << r, position.headsOfRow(r));
            }
            return sum;
        }

        boolean areSets(int rows, int columns) {
            return rowRule.allows(rows) && columnRule.allows(columns);
        }

        /** Of sets that are not empty and lie on the board. */
        boolean mayBe(Position position, int rows, int columns) {
            if (!areSets(rows, columns)) {
                return false;
            }
            return position.showsHeads(greatestOf(rows), greatestOf(columns));
        }

        private static int greatestOf(int set) {
            int greatest = 0;
            for (int i = 0; i < Position.STRIDE; i++) {
                greatest = (set >> i & 1) != 0 ? i : greatest;
            }
            return greatest;
        }

        /** Is there a k-th move (of those that win)? Passed says how many were passed by. */
        boolean find(Position position, boolean winning, int k) {
            int worth = boardWorth(position);
            passed = 0;
            for (int r = 0; r < position.rows; r++) {
                for (int c = 0; c < position.columns; c++) {
                    if (position.showsHeads(r, c) && findAt(1 << r, 1 << c, winning ? worth : -1, k)) {
                        return true;
                    }
                }
            }
            return false;
        }

        /** Goes on by moves of one greatest cell, of one effect or (-1) of each. */
        private boolean findAt(int row, int column, int effect, int k) {
            for (int rows = row; rows < row << 1; rows++) {
                for (int columns = column; rowRule.allows(rows) && columns < column << 1; columns++) {
                    boolean fits = effect == -1 || effectOf(rows, columns) == effect;
                    if (fits && columnRule.allows(columns)) {
                        if (passed == k) {
                            foundRows = rows;
                            foundColumns = columns;
                            return true;
                        }
                        passed++;
                    }
                }
            }
            return false;
        }
    }

    /** How long all boards of a size, by its rules, last: of 12 cells at most. */
    private static final class Lengths {
        private static final int MOST_CELLS = 12;

        private final int[] lengths = new int[1 << MOST_CELLS];
        /** What the moves turn, those of one greatest cell together. */
        private final int[] turned = new int[256];
        private final int[] starts = new int[MOST_CELLS + 1];
        private int tunedTo = -1;
        private int rows = 0;
        private int columns = 0;
        private int listed = 0;
        int lost = 0;
        int greatest = 0;
        int firstGreatest = 0;

        static boolean canHold(Position position) {
            return position.rows * position.columns <= MOST_CELLS;
        }

        void tune(Position position, Play finder) {
            int key = position.rulesKey();
            if (tunedTo == key || !canHold(position)) {
                return;
            }
            tunedTo = key;
            rows = position.rows;
            columns = position.columns;
            finder.tune(position);
            listMoves(finder);
            measure();
        }

        private void listMoves(Play finder) {
            listed = 0;
            int cell = 0;
            for (int r = 0; r < rows; r++) {
                for (int c = 0; c < columns; c++) {
                    starts[cell] = listed;
                    listMovesAt(1 << r, 1 << c, finder);
                    cell++;
                }
            }
            starts[cell] = listed;
        }

        private void listMovesAt(int row, int column, Play finder) {
            for (int rowSet = row; rowSet < row << 1; rowSet++) {
                for (int columnSet = column; columnSet < column << 1; columnSet++) {
                    if (listed < turned.length && finder.areSets(rowSet, columnSet)) {
                        turned[listed] = packed(Position.bitsOf(rowSet, columnSet));
                        listed++;
                    }
                }
            }
        }

        private void measure() {
            lost = 0;
            greatest = 0;
            firstGreatest = 0;
            for (int board = 0; board < 1 << rows * columns; board++) {
                int length = measured(board);
                lengths[board] = length;
                lost += 1 - (length & 1);
                if (length > greatest) {
                    greatest = length;
                    firstGreatest = board;
                }
            }
        }

        /** A move leads to a lesser board always; who plays wins where the length is odd. */
        private int measured(int board) {
            int soonest = 0;
            int latest = 0;
            for (int cell = 0; cell < rows * columns; cell++) {
                for (int i = starts[cell]; (board >> cell & 1) != 0 && i < starts[cell + 1]; i++) {
                    int length = 1 + lengths[board ^ turned[i]];
                    if ((length & 1) == 0) {
                        latest = Math.max(latest, length);
                    } else {
                        soonest = soonest == 0 ? length : Math.min(soonest, length);
                    }
                }
            }
            return soonest > 0 ? soonest : latest;
        }

        /** Cells side by side, without the gaps behind short rows. */
        private int packed(long heads) {
            int board = 0;
            for (int r = 0; r < rows; r++) {
                board |= (int) (heads >>> (Position.STRIDE * r) & 63L) << (columns * r);
            }
            return board;
        }

        long spread(int board) {
            long heads = 0L;
            for (int r = 0; r < rows; r++) {
                long row = board >> (columns * r) & ((1 << columns) - 1);
                heads |= row << (Position.STRIDE * r);
            }
            return heads;
        }

        int lengthOf(Position position) {
            return lengths[packed(position.heads) & lengths.length - 1];
        }
    }

    /** A grid brought to its step form, beside another one or not. */
    private static final class Steps {
        private static final int STRIDE = 8;

        private final long[] cells = new long[4 * STRIDE];
        /** The column in which a row's first one stands. */
        private final int[] leads = new int[4];
        int rank = 0;
        long pivots = 1L;

        void reduceGrid(Position position) {
            load(position);
            reduce(position.gridRows, position.gridColumns, position.gridColumns);
        }

        /** The inverse of a square grid stands behind it then; false: there is none. */
        boolean reduceBesideUnit(Position position) {
            int size = position.gridRows;
            load(position);
            for (int i = 0; i < size; i++) {
                cells[STRIDE * i + size + i] = 1L;
            }
            reduce(size, size, 2 * size);
            return rank == size;
        }

        private void load(Position position) {
            for (int i = 0; i < 4; i++) {
                for (int k = 0; k < STRIDE; k++) {
                    cells[STRIDE * i + k] = position.entryAt(i, k);
                }
            }
        }

        private void reduce(int rows, int leadColumns, int width) {
            rank = 0;
            pivots = 1L;
            for (int column = 0; column < leadColumns && rank < rows; column++) {
                int row = firstWith(column, rows);
                if (row < rows) {
                    swap(row, rank, width);
                    lead(column, width);
                    clearOthers(column, rows, width);
                    leads[rank] = column;
                    rank++;
                }
            }
        }

        private int firstWith(int column, int rows) {
            int row = rank;
            while (row < rows && cells[STRIDE * row + column] == 0L) {
                row++;
            }
            return row;
        }

        private void swap(int row, int other, int width) {
            for (int k = 0; k < width; k++) {
                long kept = cells[STRIDE * row + k];
                cells[STRIDE * row + k] = cells[STRIDE * other + k];
                cells[STRIDE * other + k] = kept;
            }
        }

        private void lead(int column, int width) {
            long pivot = cells[STRIDE * rank + column];
            long scale = Numbers.inverted(pivot);
            pivots = Numbers.product(pivots, pivot);
            for (int k = column; k < width; k++) {
                int i = STRIDE * rank + k;
                cells[i] = Numbers.product(cells[i], scale);
            }
        }

        private void clearOthers(int column, int rows, int width) {
            for (int row = 0; row < rows; row++) {
                long factor = cells[STRIDE * row + column];
                for (int k = column; row != rank && k < width; k++) {
                    cells[STRIDE * row + k] ^= Numbers.product(factor, cells[STRIDE * rank + k]);
                }
            }
        }

        long cellAt(int row, int column) {
            if (row < 0 || row >= 4 || column < 0 || column >= STRIDE) {
                return 0L;
            }
            return cells[STRIDE * row + column];
        }

        boolean hasLead(int column) {
            for (int i = 0; i < rank; i++) {
                if (leads[i] == column) {
                    return true;
                }
            }
            return false;
        }

        /** What stands in another column of the row whose first one is in this column; 0 without one. */
        long besideLead(int column, int other) {
            for (int i = 0; i < rank; i++) {
                if (leads[i] == column) {
                    return cellAt(i, other);
                }
            }
            return 0L;
        }
    }

    /** Polynomials, as rows of coefficients, that of power 0 first: what they have in common, their roots. */
    private static final class Polynomials {
        private static final int LENGTH = 16;
        private static final int MOST_ROOTS = 7;

        private final long[] firstHalf = new long[4];
        private final long[] secondHalf = new long[4];
        private final long[] spareHalf = new long[4];

        private final long[] f = new long[LENGTH];
        private final long[] image = new long[LENGTH];
        private final long[] sum = new long[LENGTH];
        private final long[] spare = new long[LENGTH];
        private final long[] quotient = new long[LENGTH];
        /** The powers 1, 2, 4, .. of x. */
        private final long[][] images = new long[LENGTH][LENGTH];
        private final long[][] parts = new long[MOST_ROOTS + 1][LENGTH];
        private final int[] results = new int[MOST_ROOTS];
        private final long[] knownPlaces = new long[8];
        private int knownLevel = -1;
        private int partCount = 0;
        int found = 0;

        static int degreeOf(long[] f) {
            for (int i = f.length - 1; i >= 0; i--) {
                if (f[i] != 0L) {
                    return i;
                }
            }
            return -1;
        }

        static long valueAt(long[] f, long x) {
            long value = 0L;
            for (int i = f.length - 1; i >= 0; i--) {
                value = Numbers.product(value, x) ^ f[i];
            }
            return value;
        }

        static void clear(long[] f) {
            for (int i = 0; i < f.length; i++) {
                f[i] = 0L;
            }
        }

        static void copy(long[] from, long[] to) {
            for (int i = 0; i < to.length; i++) {
                to[i] = i < from.length ? from[i] : 0L;
            }
        }

        static boolean areAlike(long[] f, long[] g) {
            for (int i = 0; i < f.length && i < g.length; i++) {
                if (f[i] != g[i]) {
                    return false;
                }
            }
            return true;
        }

        private static void makeMonic(long[] f) {
            int degree = degreeOf(f);
            if (degree < 0 || f[degree] == 1L) {
                return;
            }
            long scale = Numbers.inverted(f[degree]);
            for (int i = 0; i <= degree; i++) {
                f[i] = Numbers.product(f[i], scale);
            }
        }

        /** f becomes the rest, quotient what it was by the divisor, whose highest one is 1. */
        private static void divide(long[] f, long[] divisor, long[] quotient) {
            clear(quotient);
            int degree = degreeOf(divisor);
            for (int i = degreeOf(f); i >= degree && degree >= 0; i--) {
                long factor = f[i];
                if (i - degree < quotient.length) {
                    quotient[i - degree] = factor;
                }
                for (int j = 0; j <= degree && factor != 0L; j++) {
                    f[i - degree + j] ^= Numbers.product(factor, divisor[j]);
                }
            }
        }

        /** a becomes what is common of both; b is used up, spare too. */
        private static void meet(long[] a, long[] b, long[] spare) {
            for (int i = 0; i < a.length && degreeOf(b) >= 0; i++) {
                makeMonic(b);
                divide(a, b, spare);
                copy(a, spare);
                copy(b, a);
                copy(spare, b);
            }
            makeMonic(a);
        }

        /** The polynomials by the first and by the last four places. */
        void meetHalves(long[] places) {
            for (int i = 0; i < 4 && i + 4 < places.length; i++) {
                firstHalf[i] = places[i];
                secondHalf[i] = places[4 + i];
            }
            meet(firstHalf, secondHalf, spareHalf);
        }

        long metCoefficient(int k) {
            return k >= 0 && k < firstHalf.length ? firstHalf[k] : 0L;
        }

        /**
         * The roots in a level, of places that are not all 0: f keeps those roots that are alike
         * to their power 2 to the bits, and is split by traces till each part has one root.
         */
        void findRoots(long[] places, int level) {
            if (level == knownLevel && areAlike(places, knownPlaces)) {
                return;
            }
            knownLevel = level;
            copy(places, knownPlaces);
            copy(places, f);
            makeMonic(f);
            int bits = 1 << level;
            raiseImage(bits);
            image[1] ^= 1L;
            meet(f, image, spare);
            partCount = 1;
            copy(f, parts[0]);
            for (int b = 0; b < bits; b++) {
                sumTraces(1L << b, bits);
                splitParts();
            }
            readResults();
        }

        /** The image becomes x to 2 to the bits, the images what it went through, less multiples of f. */
        private void raiseImage(int bits) {
            clear(image);
            image[1] = 1L;
            for (int i = 0; i < bits && i < images.length; i++) {
                copy(image, images[i]);
                for (int j = LENGTH / 2 - 1; j >= 0; j--) {
                    image[2 * j] = Numbers.square(image[j]);
                    image[2 * j + 1] = 0L;
                }
                divide(image, f, quotient);
            }
        }

        /** The trace of a factor times x: 0 at some of the roots, 1 at the others. */
        private void sumTraces(long factor, int bits) {
            long power = factor;
            clear(sum);
            for (int i = 0; i < bits && i < images.length; i++) {
                for (int j = 0; j < MOST_ROOTS; j++) {
                    sum[j] ^= Numbers.product(power, images[i][j]);
                }
                power = Numbers.square(power);
            }
        }

        private void splitParts() {
            int before = partCount;
            for (int i = 0; i < before && partCount < parts.length; i++) {
                long[] rest = parts[partCount];
                copy(parts[i], rest);
                copy(sum, image);
                meet(rest, image, spare);
                int degree = degreeOf(rest);
                if (degree > 0 && degree < degreeOf(parts[i])) {
                    divide(parts[i], rest, quotient);
                    copy(quotient, parts[i]);
                    partCount++;
                }
            }
        }

        private void readResults() {
            found = 0;
            for (int i = 0; i < partCount && found < results.length; i++) {
                if (degreeOf(parts[i]) == 1) {
                    insertResult((int) parts[i][0]);
                }
            }
        }

        private void insertResult(int result) {
            int i = found;
            while (i > 0 && results[i - 1] > result) {
                results[i] = results[i - 1];
                i--;
            }
            results[i] = result;
            found++;
        }

        int rootAt(int k) {
            return k >= 0 && k < found ? results[k] : CANNOT;
        }
    }

    /** What goes through the places: all eight, or six of them and below degree 4. */
    private static final class Curve {
        private static final int BLOCKS = 4;

        /** At which numbers, and the coefficients by products of x less these, the first ones. */
        private final long[] points = new long[8];
        private final long[] steps = new long[8];
        private final long[] cubic = new long[4];
        private final long[] knownPlaces = new long[8];
        private boolean known = false;
        int agreeing = 0;

        long through(long[] places, long x) {
            for (int i = 0; i < points.length; i++) {
                points[i] = i;
                steps[i] = places[i];
            }
            differ(8);
            long value = 0L;
            for (int i = 7; i >= 0; i--) {
                value = Numbers.product(value, x ^ points[i]) ^ steps[i];
            }
            return value;
        }

        /** Divided differences, in place. */
        private void differ(int size) {
            for (int width = 1; width < size; width++) {
                for (int i = size - 1; i >= width; i--) {
                    long gap = Numbers.inverted(points[i] ^ points[i - width]);
                    steps[i] = Numbers.product(steps[i] ^ steps[i - 1], gap);
                }
            }
        }

        /** At most two of four pairs of places are wrong: two pairs that are right tell all. */
        void mend(long[] places) {
            if (known && Polynomials.areAlike(places, knownPlaces)) {
                return;
            }
            known = true;
            Polynomials.copy(places, knownPlaces);
            for (int i = 0; i < BLOCKS; i++) {
                for (int k = i + 1; k < BLOCKS; k++) {
                    fit(places, i, k);
                    agreeing = agreement(places);
                    if (isMended()) {
                        return;
                    }
                }
            }
            agreeing = 0;
            Polynomials.clear(cubic);
        }

        private void fit(long[] places, int block, int other) {
            for (int i = 0; i < 2; i++) {
                setPoint(i, places, 2 * block + i);
                setPoint(2 + i, places, 2 * other + i);
            }
            differ(4);
            Polynomials.clear(cubic);
            for (int i = 3; i >= 0; i--) {
                for (int j = 3; j > 0; j--) {
                    cubic[j] = cubic[j - 1] ^ Numbers.product(cubic[j], points[i]);
                }
                cubic[0] = Numbers.product(cubic[0], points[i]) ^ steps[i];
            }
        }

        private void setPoint(int i, long[] places, int place) {
            points[i] = place;
            steps[i] = places[place];
        }

        private int agreement(long[] places) {
            int set = 0;
            for (int i = 0; i < places.length; i++) {
                set |= Polynomials.valueAt(cubic, i) == places[i] ? 1 << i : 0;
            }
            return set;
        }

        boolean isMended() {
            return Integer.bitCount(agreeing) >= 6;
        }

        long coefficient(int k) {
            return k >= 0 && k < cubic.length ? cubic[k] : 0L;
        }

        long mendedValue(long x) {
            return Polynomials.valueAt(cubic, x);
        }
    }
}
