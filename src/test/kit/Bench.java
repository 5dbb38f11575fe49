import java.util.HashMap;
import java.util.Map;
import java.util.function.Supplier;
import java.util.function.ToLongFunction;

/**
 * What the tests of boundary cases share. Each of their methods names one sentence of the
 * document first, then says what is due by it.
 */
abstract class Bench {
    static final long LOWEST = Long.MIN_VALUE;
    static final long HIGHEST = Long.MAX_VALUE;
    /** Numbers that are no index, no kind, no bits of anything. */
    static final int[] FAR = {
        Integer.MIN_VALUE, Integer.MIN_VALUE + 1, -65536, -64, -32, -2, 64, 256, 65536, 1 << 30, Integer.MAX_VALUE
    };
    static final String[] KINDS = {"up", "exact", "ruler", "near"};

    private static int wrong = 0;
    private static int sentences = 0;
    private static int asked = 1;
    private static String where = "";
    private static String words = "";

    static void sentence(String promise, String said) {
        endSentence();
        sentences++;
        asked = 0;
        where = promise;
        words = said;
    }

    /** A sentence that nothing was asked about has no test. */
    private static void endSentence() {
        if (asked == 0) {
            blame("nothing is asked");
        }
    }

    private static void blame(String what) {
        wrong++;
        if (wrong <= 60) {
            System.out.println(where + ": \"" + words + "\": " + what);
        }
    }

    static void due(String what, long got, long want) {
        asked++;
        if (got != want) {
            blame(what + " answered " + got + ", due is " + want);
        }
    }

    static void dueSame(String what, String got, String want) {
        asked++;
        if (!got.equals(want)) {
            blame(what + "\n    is      " + got + "\n    due is  " + want);
        }
    }

    static void finish(String name) {
        endSentence();
        asked = 1;
        System.out.println(name + ": " + sentences + " sentences, " + wrong + " answers are not as due");
        if (wrong != 0) {
            System.exit(1);
        }
    }

    // ---- texts

    static int feedText(TurnField x, String text) {
        int before = x.count(8);
        for (int i = 0; i < text.length(); i += 20) {
            int[] fours = new int[5];
            for (int j = 0; j < 20; j++) {
                int sign = i + j < text.length() ? text.charAt(i + j) & 255 : 0;
                fours[j / 4] = fours[j / 4] << 8 | sign;
            }
            x.feed(fours[0], fours[1], fours[2], fours[3], fours[4]);
        }
        return x.end(before + text.length());
    }

    static int told(TurnField x, String text) {
        x.end(0);
        feedText(x, text);
        return x.tell();
    }

    static TurnField board(String text) {
        TurnField x = new TurnField();
        if (told(x, text) < 0) {
            blame("the test's own text is none: " + text);
        }
        return x;
    }

    /** A board of which all cells show heads: rows by one rule, columns by another one. */
    static TurnField allHeads(int rows, String rowRule, int columns, String columnRule) {
        TurnField x = board(rows + rowRule + " " + columns + columnRule);
        for (int r = 0; r < rows; r++) {
            for (int c = 0; c < columns; c++) {
                x.turn(r, c);
            }
        }
        return x;
    }

    static String times(String text, int n) {
        return text.repeat(n);
    }

    static void fault(String text, int place, int why) {
        TurnField x = new TurnField();
        due("tell of '" + shown(text) + "'", told(x, text), -2 - (8 * place + why));
        due("the tape behind '" + shown(text) + "'", x.count(8), 0);
    }

    static void noFault(String text, int heads) {
        due("tell of '" + shown(text) + "'", told(new TurnField(), text), heads);
    }

    private static String shown(String text) {
        StringBuilder all = new StringBuilder();
        for (char sign : text.toCharArray()) {
            all.append(sign < 32 || sign > 126 ? "[" + (int) sign + "]" : String.valueOf(sign));
        }
        return all.toString();
    }

    // ---- places, grids

    static TurnField places(long... numbers) {
        TurnField x = new TurnField();
        for (int i = 0; i < numbers.length; i++) {
            x.put(i, numbers[i]);
        }
        return x;
    }

    static TurnField gridOf(int columns, long... numbers) {
        TurnField x = new TurnField();
        setGrid(x, columns, numbers);
        return x;
    }

    static void setGrid(TurnField x, int columns, long... numbers) {
        x.grid(numbers.length / columns, columns);
        for (int i = 0; i < numbers.length; i++) {
            x.enter(i / columns, i % columns, numbers[i]);
        }
    }

    static String gridSeen(TurnField x, int what) {
        StringBuilder all = new StringBuilder();
        int rows = x.shape(0);
        int columns = x.shape(1);
        for (int r = 0; r < rows; r++) {
            for (int c = 0; c < columns; c++) {
                all.append(c == 0 ? " | " : " ").append(x.entry(r, c, what));
            }
        }
        return all.toString();
    }

    static String gridTold(int columns, long... numbers) {
        StringBuilder all = new StringBuilder();
        for (int i = 0; i < numbers.length; i++) {
            all.append(i % columns == 0 ? " | " : " ").append(numbers[i]);
        }
        return all.toString();
    }

    // ---- objects in the midst of work, and what is seen of them

    /** Seven acts, one shelf, twenty bytes; 2 rows of 3, a grid of 2 by 2. */
    static TurnField busy() {
        TurnField x = board("2 up 2 3 near 1 heads 1 2 heads 0 0");
        x.put(0, 4L);
        x.put(7, -6L);
        setGrid(x, 2, 2L, 0L, 0L, 3L);
        x.keep(0);
        x.turn(1, 1);
        x.feed(0x31757031, 0x20317570, 0x31202020, 0x20202020, 0x20202020);
        return x;
    }

    /** As many acts as can be undone; both shelves. */
    static TurnField worn() {
        TurnField x = new TurnField();
        x.keep(1);
        for (int i = 0; i < 12; i++) {
            x.put(i % 8, i + 1L);
        }
        x.turn(1, 1);
        x.keep(0);
        return x;
    }

    static String seen(TurnField x) {
        StringBuilder all = new StringBuilder("counts");
        for (int i = 6; i < 12; i++) {
            all.append(' ').append(x.count(i));
        }
        return all.append(kept(x)).toString();
    }

    /** What is kept and undone: board, places, grid. */
    static String kept(TurnField x) {
        StringBuilder all = new StringBuilder(" rules");
        int[] counts = countsOf(x);
        for (int count : counts) {
            all.append(' ').append(count);
        }
        all.append(" heads ").append(headsOf(x));
        all.append(" places");
        for (int i = 0; i < 8; i++) {
            all.append(' ').append(x.place(i));
        }
        return all.append(" grid").append(gridSeen(x, 0)).toString();
    }

    /** The call answers what is due, and nothing happens: neither to what is seen nor to what can be undone, or is kept. */
    static void refused(String what, Supplier<TurnField> maker, ToLongFunction<TurnField> call, long want) {
        TurnField touched = maker.get();
        TurnField twin = maker.get();
        due(what, call.applyAsLong(touched), want);
        alike(what, touched, twin);
    }

    static void refused(String what, ToLongFunction<TurnField> call, long want) {
        refused(what, Bench::busy, call, want);
        refused(what + " (ten acts)", Bench::worn, call, want);
    }

    static void alike(String what, TurnField touched, TurnField twin) {
        dueSame(what + ": all", seen(touched), seen(twin));
        for (int left = twin.count(7); left > 0; left--) {
            due(what + ": undone", touched.undo(), twin.undo());
            dueSame(what + ": undone to " + left, kept(touched), kept(twin));
        }
        for (int shelf = 0; shelf < 2; shelf++) {
            due(what + ": back", touched.back(shelf), twin.back(shelf));
            dueSame(what + ": back from " + shelf, kept(touched), kept(twin));
        }
    }

    /** The call answers what is due, is one act, and is undone. */
    static void act(String what, Supplier<TurnField> maker, ToLongFunction<TurnField> call, long want) {
        TurnField touched = maker.get();
        TurnField twin = maker.get();
        int before = twin.count(7);
        due(what, call.applyAsLong(touched), want);
        due(what + ": acts", touched.count(7), Math.min(10, before + 1));
        due(what + ": undone", touched.undo(), Math.min(9, before));
        dueSame(what + ": undone", kept(touched), kept(twin));
    }

    // ---- numbers, slowly

    private static final Map<Integer, Long> POWERS = new HashMap<>();

    /** 2 to the i times 2 to the j. */
    private static long powerTimes(int i, int j) {
        if (i == 0 || j == 0) {
            return 1L << (i + j);
        }
        Long known = POWERS.get(i << 6 | j);
        if (known != null) {
            return known;
        }
        int top = Math.max(Integer.highestOneBit(i), Integer.highestOneBit(j));
        long rest = powerTimes(i & top - 1, j & top - 1);
        boolean both = (i & j & top) != 0;
        long found = both ? rest << top ^ mul(rest, 1L << (top - 1)) : rest << top;
        POWERS.put(i << 6 | j, found);
        return found;
    }

    static long mul(long a, long b) {
        long sum = 0L;
        for (long x = a; x != 0L; x &= x - 1L) {
            for (long y = b; y != 0L; y &= y - 1L) {
                sum ^= powerTimes(Long.numberOfTrailingZeros(x), Long.numberOfTrailingZeros(y));
            }
        }
        return sum;
    }

    /** n without sign. */
    static long pow(long a, long n) {
        long power = 1L;
        for (int i = 63; i >= 0; i--) {
            power = mul(power, power);
            power = (n >>> i & 1L) != 0L ? mul(power, a) : power;
        }
        return power;
    }

    static long inv(long a) {
        return pow(a, -2L);
    }

    static long polynomialAt(long x, long... f) {
        long sum = 0L;
        for (int i = 0; i < f.length; i++) {
            sum ^= mul(f[i], pow(x, i));
        }
        return sum;
    }

    /** The product of a number and of x and r, of all roots r. */
    static long[] withRoots(long factor, long... roots) {
        long[] f = {factor, 0L, 0L, 0L, 0L, 0L, 0L, 0L};
        for (long root : roots) {
            for (int i = 7; i >= 0; i--) {
                f[i] = mul(f[i], root) ^ (i > 0 ? f[i - 1] : 0L);
            }
        }
        return f;
    }

    // ---- boards, slowly

    static boolean mayBe(int set, int kind, int k) {
        int n = Integer.bitCount(set);
        int width = 31 - Integer.numberOfLeadingZeros(set) - Integer.numberOfTrailingZeros(set);
        switch (kind) {
            case 0: return n >= 1 && n <= k;
            case 1: return n == k;
            case 2: return n >= 1 && n <= k && width == n - 1;
            default: return n == 1 || n == 2 && width <= k;
        }
    }

    static boolean mayBe(TurnField x, int side, int set) {
        return mayBe(set, x.count(2 + side), x.count(4 + side));
    }

    static long bits(int rows, int columns) {
        long all = 0L;
        for (int r = 0; r < 6; r++) {
            all |= (rows >> r & 1) != 0 ? (long) columns << 6 * r : 0L;
        }
        return all;
    }

    static long headsOf(TurnField x) {
        long heads = 0L;
        int rows = x.count(0);
        int columns = x.count(1);
        for (int r = 0; r < rows; r++) {
            for (int c = 0; c < columns; c++) {
                heads |= x.cell(r, c, 2) == 1 ? 1L << 6 * r + c : 0L;
            }
        }
        return heads;
    }

    /** The moves of rules and heads, in their order: bits that are turned. */
    static long[] movesOf(int[] counts, long heads) {
        long[] moves = new long[4096];
        int n = 0;
        for (int r = 0; r < counts[0]; r++) {
            for (int c = 0; c < counts[1]; c++) {
                for (int rows = 1 << r; (heads >>> 6 * r + c & 1L) != 0L && rows < 2 << r; rows++) {
                    for (int columns = 1 << c; columns < 2 << c; columns++) {
                        if (mayBe(rows, counts[2], counts[4]) && mayBe(columns, counts[3], counts[5])) {
                            moves[n++] = bits(rows, columns);
                        }
                    }
                }
            }
        }
        return java.util.Arrays.copyOf(moves, n);
    }

    static int[] countsOf(TurnField x) {
        int[] counts = new int[6];
        for (int i = 0; i < 6; i++) {
            counts[i] = x.count(i);
        }
        return counts;
    }

    static int lengthOf(int[] counts, long heads, Map<Long, Integer> known) {
        Integer length = known.get(heads);
        if (length != null) {
            return length;
        }
        int soonest = Integer.MAX_VALUE;
        int latest = 0;
        for (long move : movesOf(counts, heads)) {
            int next = 1 + lengthOf(counts, heads ^ move, known);
            if (next % 2 == 1) {
                soonest = Math.min(soonest, next);
            } else {
                latest = Math.max(latest, next);
            }
        }
        int found = soonest < Integer.MAX_VALUE ? soonest : latest;
        known.put(heads, found);
        return found;
    }
}
