import java.util.ArrayList;
import java.util.Arrays;
import java.util.HashMap;
import java.util.HashSet;
import java.util.List;
import java.util.Map;

/** Runs of 512 calls, each answer held against a slow program that goes by the definitions. */
public final class ModelRuns {
    private static final int CALLS = 512;
    private static int wrong = 0;

    private final Dice dice;
    private final TurnField field = new TurnField();
    private final SlowField model = new SlowField();
    private final List<String> told = new ArrayList<>();
    private final int run;
    private final int mood;

    private ModelRuns(int run) {
        this.run = run;
        this.dice = new Dice(run * 7919L + 17L);
        this.mood = run % 6;
    }

    public static void main(String[] args) {
        int runs = args.length > 0 ? Integer.parseInt(args[0]) : 90;
        int first = args.length > 1 ? Integer.parseInt(args[1]) : 0;
        SlowField.checkProductByDefinition(40);
        for (int run = first; run < first + runs && wrong < 10; run++) {
            new ModelRuns(run).go();
        }
        System.out.println(runs + " runs, " + wrong + " wrong");
        if (wrong != 0) {
            System.exit(1);
        }
    }

    private void go() {
        int calls = 0;
        while (calls < CALLS && wrong < 10) {
            calls += step();
        }
    }

    private boolean due(String call, long got, long want) {
        told.add(call + " " + want);
        if (got == want) {
            return true;
        }
        wrong++;
        System.out.println("run " + run + ", call " + told.size() + ": " + call + " answered " + got + ", due is " + want);
        for (int i = Math.max(0, told.size() - 12); i < told.size(); i++) {
            System.out.println("    " + told.get(i));
        }
        return false;
    }

    private int step() {
        int kind = dice.below(100);
        int[][] shares = {
            {20, 20, 15, 15, 15, 15}, {50, 10, 10, 10, 10, 10}, {10, 50, 10, 10, 10, 10},
            {10, 10, 50, 10, 10, 10}, {15, 5, 5, 55, 5, 15}, {30, 5, 5, 5, 50, 5}
        };
        int[] share = shares[mood];
        for (int i = 0; i < share.length; i++) {
            kind -= share[i];
            if (kind < 0) {
                return stepOf(i);
            }
        }
        return stepOf(0);
    }

    private int stepOf(int kind) {
        switch (kind) {
            case 0: return boardStep();
            case 1: return placeStep();
            case 2: return gridStep();
            case 3: return numberStep();
            case 4: return tapeStep();
            default: return memoryStep();
        }
    }

    // ---- boards

    private int boardStep() {
        int r = dice.about(0, model.rows());
        int c = dice.about(0, model.columns());
        int what = dice.about(0, 3);
        switch (dice.below(13)) {
            case 0: case 1: case 2:
                due("turn " + r + " " + c, field.turn(r, c), model.turn(r, c));
                return 1;
            case 3:
                return playStep();
            case 4:
                due("answer", field.answer(), model.answer());
                return 1;
            case 5:
                due("boards " + what, field.boards(what), model.boards(what));
                return 1;
            case 6:
                due("game " + what, field.game(what), model.game(what));
                return 1;
            case 7: {
                int n = dice.about(0, 12);
                int side = dice.about(0, 2);
                due("worth " + side + " " + n, field.worth(side, n), model.worth(side, n));
                due("sets " + side + " " + n, field.sets(side, n), model.sets(side, n));
                return 2;
            }
            case 8:
                due("cell " + r + " " + c + " " + what, field.cell(r, c, what), model.cell(r, c, what));
                return 1;
            case 9:
                due("total", field.total(), model.total());
                return 1;
            case 10:
                due("moves " + what, field.moves(what), model.moves(what));
                return 1;
            case 11: {
                int which = dice.about(0, 2);
                int all = which == 0 || which == 1 ? model.moves(which) : 3;
                int k = dice.about(0, Math.max(1, all));
                int w = dice.about(1, 4);
                due("move " + which + " " + k + " " + w, field.move(which, k, w), model.move(which, k, w));
                return 1;
            }
            default: {
                int w = dice.about(0, 12);
                due("count " + w, field.count(w), model.count(w));
                return 1;
            }
        }
    }

    private int playStep() {
        int rows = dice.about(1, 1 << model.rows());
        int columns = dice.about(1, 1 << model.columns());
        int all = model.moves(0);
        if (all > 0 && dice.below(2) == 0) {
            int k = dice.below(all);
            rows = model.move(0, k, 1);
            columns = model.move(0, k, 2);
        }
        due("play " + rows + " " + columns, field.play(rows, columns), model.play(rows, columns));
        return 1;
    }

    // ---- places

    private int placeStep() {
        int place = dice.about(0, 8);
        switch (dice.below(12)) {
            case 0: case 1: {
                long number = dice.below(8) == 0 ? model.place(place) : dice.number();
                due("put " + place + " " + number, field.put(place, number), model.put(place, number));
                return 1;
            }
            case 2: {
                int x = dice.about(0, 8);
                int y = dice.about(0, 8);
                int how = dice.about(0, 5);
                due("reckon " + place + " " + x + " " + y + " " + how,
                    field.reckon(place, x, y, how), model.reckon(place, x, y, how));
                return 1;
            }
            case 3:
                return putRoots();
            case 4:
                return putCubic();
            case 5: {
                int level = dice.about(0, 5);
                int k = dice.about(-1, 8);
                due("roots " + level + " " + k, field.roots(level, k), model.roots(level, k));
                return 1;
            }
            case 6:
                return putCommon();
            case 7: {
                int k = dice.about(0, 4);
                due("common " + k, field.common(k), model.common(k));
                return 1;
            }
            case 8: {
                int k = dice.about(0, 4);
                due("mended " + k, field.mended(k), model.mended(k));
                return 1;
            }
            case 9: {
                long x = dice.number();
                due("mendedAt " + x, field.mendedAt(x), model.mendedAt(x));
                int what = dice.about(0, 2);
                due("agrees " + what, field.agrees(what), model.agrees(what));
                return 2;
            }
            case 10: {
                due("place " + place, field.place(place), model.place(place));
                return 1;
            }
            default: {
                long x = dice.below(2) == 0 ? dice.below(9) : dice.number();
                int what = dice.about(0, 2);
                due("at " + x + " " + what, field.at(x, what), model.at(x, what));
                return 1;
            }
        }
    }

    private void putAll(long[] numbers, int from) {
        for (int i = 0; i < numbers.length && from + i < 8; i++) {
            due("put " + (from + i) + " " + numbers[i],
                field.put(from + i, numbers[i]), model.put(from + i, numbers[i]));
        }
    }

    /** A polynomial with roots of some level, perhaps twice, times a number, perhaps spoilt. */
    private int putRoots() {
        int level = dice.below(5);
        int degree = dice.below(8);
        long[] f = {dice.number(), 0, 0, 0, 0, 0, 0, 0};
        long root = 0L;
        for (int i = 0; i < degree; i++) {
            root = i > 0 && dice.below(4) == 0 ? root : dice.ofLevel(dice.below(6) == 0 ? 6 : level);
            f = SlowField.timesLinear(f, root);
        }
        if (dice.below(5) == 0) {
            f[dice.below(8)] ^= dice.ofLevel(level);
        }
        putAll(f, 0);
        int calls = 8;
        for (int k = -1; k < 3; k++) {
            due("roots " + level + " " + k, field.roots(level, k), model.roots(level, k));
            calls++;
        }
        return calls;
    }

    /** A polynomial below degree 4 at 0 to 7, spoilt at some. */
    private int putCubic() {
        long[] f = {dice.number(), dice.number(), dice.number(), dice.number()};
        long[] values = new long[8];
        for (int i = 0; i < 8; i++) {
            values[i] = SlowField.valueAt(f, i);
        }
        int spoilt = dice.below(4);
        for (int i = 0; i < spoilt; i++) {
            values[dice.below(8)] ^= dice.number();
        }
        putAll(values, 0);
        due("agrees 0", field.agrees(0), model.agrees(0));
        due("agrees 1", field.agrees(1), model.agrees(1));
        for (int k = 0; k < 4; k++) {
            due("mended " + k, field.mended(k), model.mended(k));
        }
        return 14;
    }

    private int putCommon() {
        long[] same = {1, 0, 0, 0};
        int degree = dice.below(4);
        for (int i = 0; i < degree; i++) {
            same = SlowField.timesLinear(same, dice.ofLevel(dice.below(7)));
        }
        for (int half = 0; half < 2; half++) {
            long[] f = same.clone();
            for (int i = degree; i < 3; i++) {
                f = SlowField.timesLinear(f, dice.number());
            }
            long factor = dice.below(6) == 0 ? 0L : dice.number();
            for (int i = 0; i < 4; i++) {
                f[i] = SlowField.mul(f[i], factor);
            }
            putAll(f, 4 * half);
        }
        for (int k = 0; k < 4; k++) {
            due("common " + k, field.common(k), model.common(k));
        }
        return 12;
    }

    // ---- grids

    private int gridStep() {
        int r = dice.about(0, model.gridRows());
        int c = dice.about(0, model.gridColumns());
        int what = dice.about(0, 2);
        switch (dice.below(10)) {
            case 0: {
                int rows = dice.about(1, 5);
                int columns = dice.below(2) == 0 ? rows : dice.about(1, 5);
                due("grid " + rows + " " + columns, field.grid(rows, columns), model.grid(rows, columns));
                return 1 + fillGrid();
            }
            case 1: case 2: {
                long number = dice.below(6) == 0 ? model.entry(r, c, 0) : dice.number();
                due("enter " + r + " " + c + " " + number, field.enter(r, c, number), model.enter(r, c, number));
                return 1;
            }
            case 3: {
                int shelf = dice.about(0, 2);
                due("multiply " + shelf, field.multiply(shelf), model.multiply(shelf));
                return 1;
            }
            case 4:
                due("invert", field.invert(), model.invert());
                return 1;
            case 5: case 6:
                due("entry " + r + " " + c + " " + what, field.entry(r, c, what), model.entry(r, c, what));
                return 1;
            case 7:
                due("determinant", field.determinant(), model.determinant());
                return 1;
            case 8: {
                int w = dice.about(0, 4);
                due("shape " + w, field.shape(w), model.shape(w));
                return 1;
            }
            default: {
                int k = dice.about(0, 4);
                due("solution " + k, field.solution(k), model.solution(k));
                return 1;
            }
        }
    }

    /** Rows some of which are sums of multiples of others. */
    private int fillGrid() {
        int rows = model.gridRows();
        int columns = model.gridColumns();
        long[][] rowsOf = new long[rows][columns];
        int calls = 0;
        for (int i = 0; i < rows; i++) {
            long factor = dice.below(3) == 0 ? dice.number() : -1L;
            for (int k = 0; k < columns; k++) {
                boolean follows = i > 0 && factor != -1L;
                rowsOf[i][k] = follows ? SlowField.mul(factor, rowsOf[i - 1][k]) : dice.below(4) == 0 ? 0L : dice.number();
                if (follows && i > 1) {
                    rowsOf[i][k] ^= rowsOf[i - 2][k];
                }
                long n = rowsOf[i][k];
                due("enter " + i + " " + k + " " + n, field.enter(i, k, n), model.enter(i, k, n));
                calls++;
            }
        }
        return calls;
    }

    // ---- numbers

    private int numberStep() {
        long a = dice.number();
        long b = dice.number();
        int what = dice.about(0, 3);
        switch (dice.below(14)) {
            case 0:
                due("times " + a + " " + b, field.times(a, b), model.times(a, b));
                return 1;
            case 1:
                due("inverse " + a, field.inverse(a), model.inverse(a));
                return 1;
            case 2:
                due("root " + a, field.root(a), model.root(a));
                return 1;
            case 3:
                due("power " + a + " " + b, field.power(a, b), model.power(a, b));
                return 1;
            case 4:
                due("order " + a, field.order(a), model.order(a));
                return 1;
            case 5:
                due("level " + a + " " + what, field.level(a, what), model.level(a, what));
                return 1;
            case 6:
                due("least " + a, field.least(a), model.least(a));
                return 1;
            case 7: {
                int level = dice.about(0, 7);
                long n = dice.below(3) == 0 ? a : dice.ofLevel(Math.max(0, level - 1));
                due("trace " + n + " " + level, field.trace(n, level), model.trace(n, level));
                return 1;
            }
            case 8:
                due("half " + a, field.half(a), model.half(a));
                return 1;
            case 9: case 10: {
                long p = dice.below(4) == 0 ? 0L : a;
                due("solve " + p + " " + b + " " + what, field.solve(p, b, what), model.solve(p, b, what));
                return 1;
            }
            case 11: case 12: {
                long base = dice.below(8) == 0 ? dice.number() : dice.ofLevel(dice.below(5));
                long x = dice.below(8) == 0 ? dice.number() : dice.ofLevel(dice.below(5));
                if (dice.below(2) == 0) {
                    x = model.power(base, dice.below(70000));
                }
                due("log " + x + " " + base, field.log(x, base), model.log(x, base));
                return 1;
            }
            default: {
                int level = dice.about(0, 7);
                int w = dice.about(0, 2);
                due("full " + level + " " + w, field.full(level, w), model.full(level, w));
                return 1;
            }
        }
    }

    // ---- the tape

    private int tapeStep() {
        if (dice.below(12) == 0) {
            int n = dice.about(0, model.count(8) + 1);
            due("end " + n, field.end(n), model.end(n));
            return 1;
        }
        if (dice.below(12) == 0) {
            due("tell", field.tell(), model.tell());
            return 1;
        }
        return feedText(dice.text());
    }

    private int feedText(String text) {
        int calls = 0;
        int before = model.count(8);
        for (int i = 0; i < text.length(); i += 20) {
            int[] words = new int[5];
            for (int j = 0; j < 20; j++) {
                int sign = i + j < text.length() ? text.charAt(i + j) & 255 : 32;
                words[j / 4] = words[j / 4] << 8 | sign;
            }
            due("feed " + Arrays.toString(words), field.feed(words[0], words[1], words[2], words[3], words[4]),
                model.feed(words[0], words[1], words[2], words[3], words[4]));
            calls++;
        }
        if (dice.below(3) != 0) {
            int n = before + text.length();
            due("end " + n, field.end(n), model.end(n));
            calls++;
        }
        if (dice.below(6) != 0) {
            due("tell '" + text + "'", field.tell(), model.tell());
            calls++;
        }
        for (int i = 0; i < 7; i++) {
            due("count " + i, field.count(i), model.count(i));
        }
        return calls + 7;
    }

    // ---- undone, kept

    private int memoryStep() {
        int shelf = dice.about(0, 2);
        switch (dice.below(6)) {
            case 0: case 1: {
                int times = dice.below(3) == 0 ? dice.below(12) : 1;
                for (int i = 0; i < times; i++) {
                    due("undo", field.undo(), model.undo());
                }
                return times + checkSome();
            }
            case 2:
                due("keep " + shelf, field.keep(shelf), model.keep(shelf));
                return 1;
            case 3:
                due("back " + shelf, field.back(shelf), model.back(shelf));
                return 1 + checkSome();
            case 4: {
                int what = dice.about(0, 12);
                due("count " + what, field.count(what), model.count(what));
                return 1;
            }
            default:
                return checkSome();
        }
    }

    private int checkSome() {
        int place = dice.below(8);
        due("place " + place, field.place(place), model.place(place));
        int r = dice.below(4);
        int c = dice.below(4);
        due("entry " + r + " " + c + " 0", field.entry(r, c, 0), model.entry(r, c, 0));
        int what = dice.below(12);
        due("count " + what, field.count(what), model.count(what));
        return 3;
    }

    /** Numbers from a seed: the same runs always. */
    private static final class Dice {
        private long state;

        Dice(long seed) {
            state = seed * 0x9E3779B97F4A7C15L + 0x1234567L;
        }

        long next() {
            state += 0x9E3779B97F4A7C15L;
            long z = state;
            z = (z ^ z >>> 30) * 0xBF58476D1CE4E5B9L;
            z = (z ^ z >>> 27) * 0x94D049BB133111EBL;
            return z ^ z >>> 31;
        }

        int below(int n) {
            return (int) ((next() >>> 1) % n);
        }

        /** From low to below high, now and then beside them, or far away. */
        int about(int low, int high) {
            int which = below(40);
            if (which == 0) {
                return low - 1;
            }
            if (which == 1) {
                return high;
            }
            if (which == 2) {
                int[] far = {Integer.MIN_VALUE, Integer.MAX_VALUE, -7, 64, 1 << 30, 32, 33, -2};
                return far[below(far.length)];
            }
            return low + below(high - low);
        }

        long ofLevel(int level) {
            return level >= 6 ? next() : next() & (1L << (1 << level)) - 1L;
        }

        long number() {
            switch (below(10)) {
                case 0: return below(4);
                case 1: return 1L << below(64);
                case 2: return -1L >>> below(64);
                case 3: return next();
                case 4: return next() >>> 1;
                default: return ofLevel(below(7));
            }
        }

        String text() {
            StringBuilder text = new StringBuilder();
            int rows = 1 + below(6);
            int columns = below(3) == 0 ? 1 + below(6) : Math.max(1, 12 / rows - below(3));
            columns = Math.min(6, columns);
            blanks(text, 0);
            side(text, rows);
            side(text, columns);
            int heads = below(6);
            for (int i = 0; i < heads; i++) {
                text.append("heads");
                blanks(text, 0);
                number(text, below(rows));
                blanks(text, 1);
                number(text, below(columns));
                blanks(text, 0);
            }
            String whole = text.toString();
            int spoilt = below(3) == 0 ? 1 + below(2) : 0;
            for (int i = 0; i < spoilt; i++) {
                whole = spoil(whole);
            }
            return whole.length() > 120 ? whole.substring(0, 120) : whole;
        }

        private void side(StringBuilder text, int n) {
            String[] words = {"up", "exact", "ruler", "near"};
            number(text, n);
            blanks(text, 0);
            text.append(words[below(4)]);
            blanks(text, 0);
            number(text, 1 + below(below(2) == 0 ? 3 : 8));
            blanks(text, 1);
        }

        private void blanks(StringBuilder text, int least) {
            int n = least + (below(3) == 0 ? below(3) : 0);
            for (int i = 0; i < n; i++) {
                text.append(below(4) == 0 ? ';' : ' ');
            }
        }

        private void number(StringBuilder text, int n) {
            if (below(10) == 0) {
                text.append("00000000000".substring(below(10)));
            }
            text.append(n);
        }

        private String spoil(String text) {
            if (text.isEmpty()) {
                return "7";
            }
            int i = below(text.length());
            String[] bits = {"", "0", "9", "99999999999999", "A", "heads", "up", "x", "-", "\n", "\u00e9", "\0", " ", "4294967297"};
            String bit = bits[below(bits.length)];
            return below(4) == 0 ? text.substring(0, i)
                : text.substring(0, i) + bit + text.substring(below(2) == 0 ? i : i + 1);
        }
    }
}

/** What TurnField promises, said again as slowly and as plainly as the document says it. */
final class SlowField {
    private static final int NONE = -1;
    private static final long[][] POWERS = powersOfTwo();
    private static final int[] LOGS = new int[65536];
    private static final int[] ANTILOGS = new int[65535];
    private static final Map<String, Map<Long, Integer>> LENGTHS = new HashMap<>();
    private static final Map<String, int[]> WORTHS = new HashMap<>();
    private static final Map<String, int[][]> EXCLUDED = new HashMap<>();
    private static final Map<String, long[]> BOARDS = new HashMap<>();

    static {
        int x = 1;
        int full = 256;
        while (ordinalOrder(full) != 65535) {
            full++;
        }
        for (int i = 0; i < 65535; i++) {
            ANTILOGS[i] = x;
            LOGS[x] = i;
            x = (int) mul(x, full);
        }
    }

    private static int ordinalOrder(int a) {
        long x = a;
        int n = 1;
        while (x != 1L) {
            x = mul(x, a);
            n++;
        }
        return n;
    }

    // ---- numbers

    /** The products of powers of two, by Conway's rules for the powers 2 to the 2 to the k. */
    private static long[][] powersOfTwo() {
        long[][] table = new long[64][64];
        for (int i = 0; i < 64; i++) {
            for (int j = 0; j < 64; j++) {
                table[i][j] = powerTimes(i, j);
            }
        }
        return table;
    }

    private static long powerTimes(int i, int j) {
        if (i == 0 || j == 0) {
            return 1L << (i + j);
        }
        int top = Math.max(Integer.highestOneBit(i), Integer.highestOneBit(j));
        boolean both = (i & top) != 0 && (j & top) != 0;
        long rest = powerTimes(i & top - 1, j & top - 1);
        if (!both) {
            return rest << top;
        }
        return rest << top ^ slowMul(rest, 1L << (top - 1));
    }

    private static long slowMul(long a, long b) {
        long sum = 0L;
        for (int i = 0; i < 64; i++) {
            for (int j = 0; j < 64; j++) {
                if ((a >>> i & 1L) != 0L && (b >>> j & 1L) != 0L) {
                    sum ^= powerTimes(i, j);
                }
            }
        }
        return sum;
    }

    static long mul(long a, long b) {
        long sum = 0L;
        for (long x = a; x != 0L; x &= x - 1L) {
            long[] row = POWERS[Long.numberOfTrailingZeros(x)];
            for (long y = b; y != 0L; y &= y - 1L) {
                sum ^= row[Long.numberOfTrailingZeros(y)];
            }
        }
        return sum;
    }

    /** The table above against the definition by what is least excluded. */
    static void checkProductByDefinition(int size) {
        long[][] table = new long[size][size];
        for (int a = 0; a < size; a++) {
            for (int b = 0; b < size; b++) {
                HashSet<Long> met = new HashSet<>();
                for (int c = 0; c < a; c++) {
                    for (int d = 0; d < b; d++) {
                        met.add(table[c][b] ^ table[a][d] ^ table[c][d]);
                    }
                }
                long least = 0L;
                while (met.contains(least)) {
                    least++;
                }
                table[a][b] = least;
                if (least != mul(a, b)) {
                    throw new IllegalStateException("the model's product of " + a + ", " + b);
                }
            }
        }
    }

    long times(long a, long b) {
        return mul(a, b);
    }

    private static long unsignedPower(long a, long n) {
        long power = 1L;
        long base = a;
        for (long rest = n; rest != 0L; rest >>>= 1) {
            if ((rest & 1L) != 0L) {
                power = mul(power, base);
            }
            base = mul(base, base);
        }
        return power;
    }

    static long invert64(long a) {
        return unsignedPower(a, -2L);
    }

    long inverse(long a) {
        return invert64(a);
    }

    long root(long a) {
        return unsignedPower(a, 1L << 63);
    }

    long power(long a, long n) {
        return n >= 0L ? unsignedPower(a, n) : invert64(unsignedPower(a, -n));
    }

    long order(long a) {
        if (a == 0L) {
            return 0L;
        }
        long n = -1L;
        for (long prime : new long[] {3L, 5L, 17L, 257L, 641L, 65537L, 6700417L}) {
            if (unsignedPower(a, Long.divideUnsigned(n, prime)) == 1L) {
                n = Long.divideUnsigned(n, prime);
            }
        }
        return n;
    }

    private static List<Long> conjugates(long a) {
        List<Long> all = new ArrayList<>();
        for (long c = a; !all.contains(c); c = mul(c, c)) {
            all.add(c);
        }
        return all;
    }

    static int levelOf(long a) {
        return a == 0L ? 0 : 32 - Integer.numberOfLeadingZeros(63 - Long.numberOfLeadingZeros(a));
    }

    int level(long a, int what) {
        return what == 0 ? levelOf(a) : what == 1 ? conjugates(a).size() : NONE;
    }

    long least(long a) {
        List<Long> all = conjugates(a);
        long[] f = new long[all.size() + 1];
        f[0] = 1L;
        for (long c : all) {
            f = timesLinear(f, c);
        }
        long bits = 0L;
        for (int i = 0; i < all.size(); i++) {
            if (f[i] != 0L && f[i] != 1L) {
                throw new IllegalStateException("a least polynomial of " + f[i]);
            }
            bits |= f[i] << i;
        }
        return bits;
    }

    /** Times x and c; what would be too high is lost. */
    static long[] timesLinear(long[] f, long c) {
        long[] g = new long[f.length];
        for (int i = 0; i < f.length; i++) {
            g[i] = mul(f[i], c) ^ (i > 0 ? f[i - 1] : 0L);
        }
        return g;
    }

    int trace(long a, int level) {
        if (level < 0 || level > 6 || levelOf(a) > level) {
            return NONE;
        }
        long sum = 0L;
        long c = a;
        for (int i = 0; i < 1 << level; i++) {
            sum ^= c;
            c = mul(c, c);
        }
        return (int) sum;
    }

    /** All x with x x and p x together q, by elimination over bits: null, or one of them. */
    private static Long solved(long p, long q) {
        long[] images = new long[64];
        long[] origins = new long[64];
        for (int i = 0; i < 64; i++) {
            long image = POWERS[i][i] ^ mul(p, 1L << i);
            long origin = 1L << i;
            for (int b = 63; b >= 0 && image != 0L; b--) {
                if ((image >>> b & 1L) != 0L) {
                    if (images[b] == 0L) {
                        images[b] = image;
                        origins[b] = origin;
                        break;
                    }
                    image ^= images[b];
                    origin ^= origins[b];
                }
            }
        }
        long rest = q;
        long x = 0L;
        for (int b = 63; b >= 0; b--) {
            if ((rest >>> b & 1L) != 0L) {
                if (images[b] == 0L) {
                    return null;
                }
                rest ^= images[b];
                x ^= origins[b];
            }
        }
        return x;
    }

    long half(long a) {
        Long x = solved(1L, a);
        return x == null || a == 0L ? 0L : x & ~1L;
    }

    long solve(long p, long q, int what) {
        Long x = solved(p, q);
        if (x == null || what < 0 || what > 2) {
            return 0L;
        }
        if (what == 0) {
            return p == 0L ? 1L : 2L;
        }
        long other = x ^ p;
        boolean first = Long.compareUnsigned(x, other) < 0;
        return first == (what == 1) ? x : other;
    }

    int log(long a, long base) {
        if (levelOf(a) > 4 || levelOf(base) > 4) {
            return -2;
        }
        long power = 1L;
        for (int n = 0; n <= 65536; n++) {
            if (power == a) {
                return n;
            }
            power = mul16(power, base);
        }
        return NONE;
    }

    private static long mul16(long a, long b) {
        return a == 0L || b == 0L ? 0L : ANTILOGS[(LOGS[(int) a] + LOGS[(int) b]) % 65535];
    }

    long full(int level, int what) {
        if (level < 0 || level > 6 || what < 0 || what > 1) {
            return NONE;
        }
        long[] counts = {1L, 2L, 8L, 128L, 32768L, 32768L * 65536L, 32768L * 65536L * 640L * 6700416L};
        if (what == 1) {
            return counts[level];
        }
        long all = level == 6 ? -1L : (1L << (1 << level)) - 1L;
        long a = 1L;
        if (level >= 5) {
            a = 1L << (1 << level - 1);
        }
        while (levelOf(a) > level || order(a) != all) {
            a++;
        }
        return a;
    }

    // ---- state

    private static final class State {
        int rows = 3;
        int columns = 3;
        int[] kinds = {0, 0};
        int[] limits = {2, 2};
        boolean[][] heads = new boolean[6][6];
        long[] places = new long[8];
        long[][] grid = new long[1][1];

        State copy() {
            State other = new State();
            other.rows = rows;
            other.columns = columns;
            other.kinds = kinds.clone();
            other.limits = limits.clone();
            other.heads = new boolean[6][];
            for (int i = 0; i < 6; i++) {
                other.heads[i] = heads[i].clone();
            }
            other.places = places.clone();
            other.grid = new long[grid.length][];
            for (int i = 0; i < grid.length; i++) {
                other.grid[i] = grid[i].clone();
            }
            return other;
        }

        int shown() {
            int n = 0;
            for (boolean[] row : heads) {
                for (boolean cell : row) {
                    n += cell ? 1 : 0;
                }
            }
            return n;
        }

        String rules() {
            return rows + " " + columns + Arrays.toString(kinds) + Arrays.toString(limits);
        }
    }

    private State now = new State();
    private final List<State> past = new ArrayList<>();
    private final State[] shelves = new State[2];
    private final List<Integer> tape = new ArrayList<>();

    private void act() {
        past.add(now.copy());
        if (past.size() > 10) {
            past.remove(0);
        }
    }

    int rows() {
        return now.rows;
    }

    int columns() {
        return now.columns;
    }

    int gridRows() {
        return now.grid.length;
    }

    int gridColumns() {
        return now.grid[0].length;
    }

    // ---- the tape

    int feed(int... numbers) {
        if (tape.size() > 100) {
            return NONE;
        }
        for (int number : numbers) {
            for (int i = 3; i >= 0; i--) {
                tape.add(number >>> 8 * i & 255);
            }
        }
        return tape.size();
    }

    int end(int n) {
        if (n < 0 || n > tape.size()) {
            return NONE;
        }
        while (tape.size() > n) {
            tape.remove(tape.size() - 1);
        }
        return n;
    }

    private static final class Fault extends RuntimeException {
        private static final long serialVersionUID = 1L;
        final int code;

        Fault(int place, int why) {
            super(null, null, false, false);
            code = 8 * place + why;
        }
    }

    private String text = "";
    private int spot = 0;

    int tell() {
        StringBuilder signs = new StringBuilder();
        for (int sign : tape) {
            signs.append((char) sign);
        }
        text = signs.toString();
        spot = 0;
        tape.clear();
        State next = now.copy();
        try {
            next.heads = new boolean[6][6];
            next.rows = number(1, 6);
            next.kinds[0] = word("up", "exact", "ruler", "near");
            next.limits[0] = number(1, 8);
            next.columns = number(1, 6);
            next.kinds[1] = word("up", "exact", "ruler", "near");
            next.limits[1] = number(1, 8);
            while (sign() >= 0) {
                word("heads");
                int r = number(0, next.rows - 1);
                int c = number(0, next.columns - 1);
                next.heads[r][c] = true;
            }
        } catch (Fault fault) {
            return -2 - fault.code;
        }
        act();
        now = next;
        return now.shown();
    }

    /** The next sign that is none of those between; -1 at the end. */
    private int sign() {
        while (spot < text.length() && " ;".indexOf(text.charAt(spot)) >= 0) {
            spot++;
        }
        return spot < text.length() ? text.charAt(spot) : -1;
    }

    private int number(int low, int high) {
        if (sign() < '0' || sign() > '9') {
            throw new Fault(spot, 1);
        }
        int start = spot;
        while (spot < text.length() && Character.isDigit(text.charAt(spot))) {
            spot++;
        }
        java.math.BigInteger n = new java.math.BigInteger(text.substring(start, spot));
        if (n.bitLength() > 30 || n.intValue() < low || n.intValue() > high) {
            throw new Fault(start, 2);
        }
        return n.intValue();
    }

    private int word(String... words) {
        int start = sign() < 0 ? text.length() : spot;
        int end = start;
        while (end < text.length() && text.charAt(end) >= 'a' && text.charAt(end) <= 'z') {
            end++;
        }
        int which = Arrays.asList(words).indexOf(text.substring(start, end));
        if (which < 0) {
            throw new Fault(start, 1);
        }
        spot = end;
        return which;
    }

    // ---- acts

    private boolean hasCell(int r, int c) {
        return r >= 0 && r < now.rows && c >= 0 && c < now.columns;
    }

    int turn(int r, int c) {
        if (!hasCell(r, c)) {
            return NONE;
        }
        act();
        now.heads[r][c] = !now.heads[r][c];
        return now.shown();
    }

    int play(int rows, int columns) {
        if (rows <= 0 || columns <= 0 || rows >= 1 << now.rows || columns >= 1 << now.columns) {
            return NONE;
        }
        for (int[] move : allMoves()) {
            if (move[0] == rows && move[1] == columns) {
                act();
                turnAll(now.heads, rows, columns);
                return now.shown();
            }
        }
        return -2;
    }

    private static void turnAll(boolean[][] heads, int rows, int columns) {
        for (int r = 0; r < 6; r++) {
            for (int c = 0; c < 6; c++) {
                heads[r][c] ^= (rows >> r & 1) != 0 && (columns >> c & 1) != 0;
            }
        }
    }

    int answer() {
        List<int[]> winning = movesOf(1);
        List<int[]> all = allMoves();
        if (all.isEmpty()) {
            return -2;
        }
        int[] move = winning.isEmpty() ? all.get(0) : winning.get(0);
        act();
        turnAll(now.heads, move[0], move[1]);
        return winning.isEmpty() ? 0 : 1;
    }

    int put(int place, long number) {
        if (place < 0 || place > 7) {
            return NONE;
        }
        if (now.places[place] == number) {
            return -2;
        }
        act();
        now.places[place] = number;
        return 1;
    }

    int reckon(int place, int x, int y, int how) {
        if (place < 0 || place > 7 || x < 0 || x > 7 || how < 0 || how > 4 || how != 3 && (y < 0 || y > 7)) {
            return NONE;
        }
        long a = now.places[x];
        long b = how == 3 ? 0L : now.places[y];
        if (how == 2 && b == 0L) {
            return -2;
        }
        long[] all = {a ^ b, mul(a, b), mul(a, invert64(b)), root(a), unsignedPower(a, b)};
        act();
        now.places[place] = all[how];
        return 1;
    }

    int undo() {
        if (past.isEmpty()) {
            return NONE;
        }
        now = past.remove(past.size() - 1);
        return past.size();
    }

    int keep(int shelf) {
        if (shelf < 0 || shelf > 1) {
            return NONE;
        }
        shelves[shelf] = now.copy();
        return now.shown();
    }

    int back(int shelf) {
        if (shelf < 0 || shelf > 1) {
            return NONE;
        }
        if (shelves[shelf] == null) {
            return -2;
        }
        act();
        now = shelves[shelf].copy();
        return now.shown();
    }

    // ---- grids

    int grid(int rows, int columns) {
        if (rows < 1 || rows > 4 || columns < 1 || columns > 4) {
            return NONE;
        }
        act();
        now.grid = new long[rows][columns];
        return rows * columns;
    }

    private boolean hasEntry(int r, int c) {
        return r >= 0 && r < now.grid.length && c >= 0 && c < now.grid[0].length;
    }

    int enter(int r, int c, long number) {
        if (!hasEntry(r, c)) {
            return NONE;
        }
        if (now.grid[r][c] == number) {
            return -2;
        }
        act();
        now.grid[r][c] = number;
        return 1;
    }

    int multiply(int shelf) {
        if (shelf < 0 || shelf > 1 || shelves[shelf] == null) {
            return NONE;
        }
        long[][] a = now.grid;
        long[][] b = shelves[shelf].grid;
        if (a[0].length != b.length) {
            return -2;
        }
        act();
        now.grid = gridProduct(a, b);
        return a.length * b[0].length;
    }

    private static long[][] gridProduct(long[][] a, long[][] b) {
        long[][] product = new long[a.length][b[0].length];
        for (int i = 0; i < a.length; i++) {
            for (int k = 0; k < b[0].length; k++) {
                for (int j = 0; j < b.length; j++) {
                    product[i][k] ^= mul(a[i][j], b[j][k]);
                }
            }
        }
        return product;
    }

    /** By the first row, and what is left without it: the definition. */
    private static long determinantOf(long[][] a) {
        int n = a.length;
        if (n == 0) {
            return 1L;
        }
        long sum = 0L;
        for (int k = 0; k < n; k++) {
            sum ^= mul(a[0][k], determinantOf(without(a, 0, k)));
        }
        return sum;
    }

    private static long[][] without(long[][] a, int row, int column) {
        long[][] b = new long[a.length - 1][a[0].length - 1];
        for (int i = 0; i < b.length; i++) {
            for (int k = 0; k < b[0].length; k++) {
                b[i][k] = a[i < row ? i : i + 1][k < column ? k : k + 1];
            }
        }
        return b;
    }

    int invert() {
        int n = now.grid.length;
        if (n != now.grid[0].length || determinantOf(now.grid) == 0L) {
            return -2;
        }
        long scale = invert64(determinantOf(now.grid));
        long[][] inverse = new long[n][n];
        for (int i = 0; i < n; i++) {
            for (int k = 0; k < n; k++) {
                inverse[i][k] = mul(scale, determinantOf(without(now.grid, k, i)));
            }
        }
        act();
        now.grid = inverse;
        return 1;
    }

    private static long[][] stepForm(long[][] grid) {
        long[][] a = new long[grid.length][];
        for (int i = 0; i < a.length; i++) {
            a[i] = grid[i].clone();
        }
        int done = 0;
        for (int k = 0; k < a[0].length; k++) {
            int row = -1;
            for (int i = a.length - 1; i >= done; i--) {
                row = a[i][k] != 0L ? i : row;
            }
            if (row < 0) {
                continue;
            }
            long[] first = a[row];
            a[row] = a[done];
            a[done] = first;
            long scale = invert64(first[k]);
            for (int j = 0; j < first.length; j++) {
                first[j] = mul(first[j], scale);
            }
            for (int i = 0; i < a.length; i++) {
                long factor = i == done ? 0L : a[i][k];
                for (int j = 0; j < first.length; j++) {
                    a[i][j] ^= mul(factor, first[j]);
                }
            }
            done++;
        }
        return a;
    }

    long entry(int r, int c, int what) {
        if (!hasEntry(r, c) || what < 0 || what > 1) {
            return 0L;
        }
        return what == 0 ? now.grid[r][c] : stepForm(now.grid)[r][c];
    }

    long determinant() {
        return now.grid.length == now.grid[0].length ? determinantOf(now.grid) : 0L;
    }

    private static int firstOf(long[] row) {
        for (int k = 0; k < row.length; k++) {
            if (row[k] != 0L) {
                return k;
            }
        }
        return -1;
    }

    int shape(int what) {
        int columns = now.grid[0].length;
        int rank = 0;
        boolean fits = true;
        for (long[] row : stepForm(now.grid)) {
            rank += firstOf(row) >= 0 ? 1 : 0;
            fits &= firstOf(row) != columns - 1;
        }
        switch (what) {
            case 0: return now.grid.length;
            case 1: return columns;
            case 2: return rank;
            case 3: return fits ? columns - 1 - rank : -2;
            default: return NONE;
        }
    }

    long solution(int k) {
        int last = now.grid[0].length - 1;
        if (k < 0 || k >= last || shape(3) == -2) {
            return 0L;
        }
        long[] unknowns = new long[last];
        for (long[] row : stepForm(now.grid)) {
            if (firstOf(row) >= 0) {
                unknowns[firstOf(row)] = row[last];
            }
        }
        for (long[] row : now.grid) {
            long sum = row[last];
            for (int j = 0; j < last; j++) {
                sum ^= mul(row[j], unknowns[j]);
            }
            if (sum != 0L) {
                throw new IllegalStateException("the model's solution does not fit");
            }
        }
        return unknowns[k];
    }

    // ---- places

    long place(int place) {
        return place < 0 || place > 7 ? 0L : now.places[place];
    }

    static long valueAt(long[] f, long x) {
        long sum = 0L;
        long power = 1L;
        for (long coefficient : f) {
            sum ^= mul(coefficient, power);
            power = mul(power, x);
        }
        return sum;
    }

    long at(long x, int what) {
        if (what == 0) {
            return valueAt(now.places, x);
        }
        if (what != 1) {
            return 0L;
        }
        int[] all = {0, 1, 2, 3, 4, 5, 6, 7};
        return lagrange(all, x);
    }

    private long lagrange(int[] points, long x) {
        long sum = 0L;
        for (int i : points) {
            long term = now.places[i];
            for (int k : points) {
                if (k != i) {
                    term = mul(term, mul(x ^ k, invert64(i ^ k)));
                }
            }
            sum ^= term;
        }
        return sum;
    }

    private long[] rootsOf = null;
    private int[] rootsFound = null;
    private int rootsLevel = -1;

    int roots(int level, int k) {
        if (level < 0 || level > 4 || k < -1) {
            return NONE;
        }
        if (rootsLevel != level || !Arrays.equals(rootsOf, now.places)) {
            rootsLevel = level;
            rootsOf = now.places.clone();
            rootsFound = new int[65536];
            int found = 0;
            for (int x = 0; x < 1 << (1 << level); x++) {
                if (valueAt16(now.places, x) == 0L) {
                    rootsFound[found] = x;
                    found++;
                }
            }
            rootsFound = Arrays.copyOf(rootsFound, found);
        }
        if (k == -1) {
            return rootsFound.length;
        }
        return k < rootsFound.length ? rootsFound[k] : -2;
    }

    /** By four numbers of 16 bits each: x is one of them. */
    private static long valueAt16(long[] f, int x) {
        long value = 0L;
        for (int i = 7; i >= 0; i--) {
            long next = 0L;
            for (int j = 0; j < 64; j += 16) {
                next |= mul16(value >>> j & 65535L, x) << j;
            }
            value = next ^ f[i];
        }
        return value;
    }

    long common(int k) {
        if (k < 0 || k > 3) {
            return 0L;
        }
        List<Long> a = trimmed(Arrays.copyOfRange(now.places, 0, 4));
        List<Long> b = trimmed(Arrays.copyOfRange(now.places, 4, 8));
        while (!b.isEmpty()) {
            while (a.size() >= b.size()) {
                long factor = mul(a.get(a.size() - 1), invert64(b.get(b.size() - 1)));
                long[] rest = new long[a.size()];
                for (int i = 0; i < rest.length; i++) {
                    int j = i - (a.size() - b.size());
                    rest[i] = a.get(i) ^ (j >= 0 ? mul(factor, b.get(j)) : 0L);
                }
                a = trimmed(rest);
            }
            List<Long> kept = a;
            a = b;
            b = kept;
        }
        return k < a.size() ? mul(a.get(k), invert64(a.get(a.size() - 1))) : 0L;
    }

    private static List<Long> trimmed(long[] f) {
        List<Long> list = new ArrayList<>();
        for (long coefficient : f) {
            list.add(coefficient);
        }
        while (!list.isEmpty() && list.get(list.size() - 1) == 0L) {
            list.remove(list.size() - 1);
        }
        return list;
    }

    /** Four of the places whose curve goes through six: null, if there are none such. */
    private int[] goodFour() {
        for (int set = 0; set < 256; set++) {
            if (Integer.bitCount(set) == 4) {
                int[] four = new int[4];
                int n = 0;
                for (int i = 0; i < 8; i++) {
                    if ((set >> i & 1) != 0) {
                        four[n] = i;
                        n++;
                    }
                }
                if (Integer.bitCount(agreeing(four)) >= 6) {
                    return four;
                }
            }
        }
        return null;
    }

    private int agreeing(int[] four) {
        int set = 0;
        for (int i = 0; i < 8; i++) {
            set |= lagrange(four, i) == now.places[i] ? 1 << i : 0;
        }
        return set;
    }

    long mended(int k) {
        int[] four = goodFour();
        if (four == null || k < 0 || k > 3) {
            return 0L;
        }
        long sum = 0L;
        for (int i : four) {
            long[] term = {1L, 0L, 0L, 0L};
            long scale = now.places[i];
            for (int j : four) {
                if (j != i) {
                    term = timesLinear(term, j);
                    scale = mul(scale, invert64(i ^ j));
                }
            }
            sum ^= mul(term[k], scale);
        }
        return sum;
    }

    long mendedAt(long x) {
        int[] four = goodFour();
        return four == null ? 0L : lagrange(four, x);
    }

    int agrees(int what) {
        if (what < 0 || what > 1) {
            return NONE;
        }
        int[] four = goodFour();
        if (four == null) {
            return -2;
        }
        int set = agreeing(four);
        return what == 0 ? Integer.bitCount(set) : ~set & 255;
    }

    // ---- rules and boards

    private static boolean mayBe(int set, int kind, int limit) {
        List<Integer> coins = new ArrayList<>();
        for (int i = 0; i < 12; i++) {
            if ((set >> i & 1) != 0) {
                coins.add(i);
            }
        }
        int n = coins.size();
        if (n == 0) {
            return false;
        }
        int width = coins.get(n - 1) - coins.get(0);
        switch (kind) {
            case 0: return n <= limit;
            case 1: return n == limit;
            case 2: return n <= limit && width == n - 1;
            default: return n == 1 || n == 2 && width <= limit;
        }
    }

    private static int leastExcluded(HashSet<Integer> met) {
        int least = 0;
        while (met.contains(least)) {
            least++;
        }
        return least;
    }

    private static int[] worthsOf(int kind, int limit) {
        String key = kind + " " + limit;
        if (WORTHS.containsKey(key)) {
            return WORTHS.get(key);
        }
        int[] worths = new int[24];
        for (int n = 0; n < 12; n++) {
            HashSet<Integer> met = new HashSet<>();
            for (int set = 1 << n; set < 2 << n; set++) {
                if (mayBe(set, kind, limit)) {
                    int sum = 0;
                    for (int i = 0; i < n; i++) {
                        sum ^= (set >> i & 1) != 0 ? worths[i] : 0;
                    }
                    met.add(sum);
                    worths[12 + n]++;
                }
            }
            worths[n] = leastExcluded(met);
        }
        WORTHS.put(key, worths);
        return worths;
    }

    int worth(int side, int n) {
        return side < 0 || side > 1 || n < 0 || n > 11 ? NONE : worthsOf(now.kinds[side], now.limits[side])[n];
    }

    int sets(int side, int n) {
        return side < 0 || side > 1 || n < 0 || n > 11 ? NONE : worthsOf(now.kinds[side], now.limits[side])[12 + n];
    }

    private int cellWorth(int r, int c) {
        return (int) mul(worth(0, r), worth(1, c));
    }

    private int[][] excluded() {
        String key = now.rules();
        if (EXCLUDED.containsKey(key)) {
            return EXCLUDED.get(key);
        }
        int[][] least = new int[6][6];
        for (int r = 0; r < now.rows; r++) {
            for (int c = 0; c < now.columns; c++) {
                HashSet<Integer> met = new HashSet<>();
                for (int[] move : movesAt(r, c)) {
                    int sum = 0;
                    for (int i = 0; i <= r; i++) {
                        for (int k = 0; k <= c; k++) {
                            boolean turned = (move[0] >> i & 1) != 0 && (move[1] >> k & 1) != 0;
                            sum ^= turned && (i != r || k != c) ? least[i][k] : 0;
                        }
                    }
                    met.add(sum);
                }
                least[r][c] = leastExcluded(met);
            }
        }
        EXCLUDED.put(key, least);
        return least;
    }

    private List<int[]> movesAt(int r, int c) {
        List<int[]> moves = new ArrayList<>();
        for (int rows = 1 << r; rows < 2 << r; rows++) {
            for (int columns = 1 << c; columns < 2 << c; columns++) {
                if (mayBe(rows, now.kinds[0], now.limits[0]) && mayBe(columns, now.kinds[1], now.limits[1])) {
                    moves.add(new int[] {rows, columns});
                }
            }
        }
        return moves;
    }

    int cell(int r, int c, int what) {
        if (!hasCell(r, c) || what < 0 || what > 2) {
            return NONE;
        }
        return what == 0 ? cellWorth(r, c) : what == 1 ? excluded()[r][c] : now.heads[r][c] ? 1 : 0;
    }

    private int totalOf(boolean[][] heads) {
        int sum = 0;
        for (int r = 0; r < now.rows; r++) {
            for (int c = 0; c < now.columns; c++) {
                sum ^= heads[r][c] ? cellWorth(r, c) : 0;
            }
        }
        return sum;
    }

    long total() {
        return totalOf(now.heads);
    }

    private int totalBehind(int[] move) {
        State next = now.copy();
        turnAll(next.heads, move[0], move[1]);
        return totalOf(next.heads);
    }

    private List<int[]> allMoves() {
        List<int[]> moves = new ArrayList<>();
        for (int r = 0; r < now.rows; r++) {
            for (int c = 0; c < now.columns; c++) {
                if (now.heads[r][c]) {
                    moves.addAll(movesAt(r, c));
                }
            }
        }
        return moves;
    }

    private List<int[]> movesOf(int which) {
        List<int[]> moves = new ArrayList<>();
        for (int[] move : allMoves()) {
            if (which == 0 || totalBehind(move) == 0) {
                moves.add(move);
            }
        }
        return moves;
    }

    int moves(int what) {
        return what < 0 || what > 1 ? NONE : movesOf(what).size();
    }

    int move(int which, int k, int what) {
        if (which < 0 || which > 1 || k < 0 || what < 1 || what > 3) {
            return NONE;
        }
        List<int[]> moves = movesOf(which);
        if (k >= moves.size()) {
            return -2;
        }
        return what == 3 ? totalBehind(moves.get(k)) : moves.get(k)[what - 1];
    }

    private static long bits(boolean[][] heads) {
        long bits = 0L;
        for (int r = 0; r < 6; r++) {
            for (int c = 0; c < 6; c++) {
                bits |= heads[r][c] ? 1L << 6 * r + c : 0L;
            }
        }
        return bits;
    }

    private int lengthOf(long heads, Map<Long, Integer> known) {
        Integer length = known.get(heads);
        if (length != null) {
            return length;
        }
        int soonest = Integer.MAX_VALUE;
        int latest = 0;
        for (int r = 0; r < now.rows; r++) {
            for (int c = 0; c < now.columns; c++) {
                if ((heads >>> 6 * r + c & 1L) != 0L) {
                    for (int[] move : movesAt(r, c)) {
                        boolean[][] turned = new boolean[6][6];
                        turnAll(turned, move[0], move[1]);
                        int next = lengthOf(heads ^ bits(turned), known);
                        if (next % 2 == 0) {
                            soonest = Math.min(soonest, next + 1);
                        } else {
                            latest = Math.max(latest, next + 1);
                        }
                    }
                }
            }
        }
        int found = soonest < Integer.MAX_VALUE ? soonest : latest;
        known.put(heads, found);
        return found;
    }

    private Map<Long, Integer> lengths() {
        return LENGTHS.computeIfAbsent(now.rules(), key -> new HashMap<>());
    }

    int game(int what) {
        if (what < 0 || what > 1) {
            return NONE;
        }
        if (now.rows * now.columns > 12) {
            return -2;
        }
        int length = lengthOf(bits(now.heads), lengths());
        int wins = movesOf(1).isEmpty() ? 0 : 1;
        if (wins != length % 2) {
            throw new IllegalStateException("the model's length and worth do not fit");
        }
        return what == 0 ? wins : length;
    }

    long boards(int what) {
        if (what < 0 || what > 2) {
            return NONE;
        }
        if (now.rows * now.columns > 12) {
            return -2L;
        }
        return BOARDS.computeIfAbsent(now.rules(), key -> allBoards())[what];
    }

    private long[] allBoards() {
        long lost = 0L;
        long greatest = -1L;
        long least = 0L;
        Map<Long, Integer> known = lengths();
        int cells = now.rows * now.columns;
        for (int board = 0; board < 1 << cells; board++) {
            long heads = 0L;
            for (int i = 0; i < cells; i++) {
                if ((board >> i & 1) != 0) {
                    heads |= 1L << 6 * (i / now.columns) + i % now.columns;
                }
            }
            int length = lengthOf(heads, known);
            lost += length % 2 == 0 ? 1 : 0;
            if (length > greatest || length == greatest && heads < least) {
                greatest = length;
                least = heads;
            }
        }
        return new long[] {lost, greatest, least};
    }

    int count(int what) {
        int rowsShown = 0;
        int columnsShown = 0;
        for (int r = 0; r < 6; r++) {
            for (int c = 0; c < 6; c++) {
                rowsShown |= now.heads[r][c] ? 1 << r : 0;
                columnsShown |= now.heads[r][c] ? 1 << c : 0;
            }
        }
        int[] all = {
            now.rows, now.columns, now.kinds[0], now.kinds[1], now.limits[0], now.limits[1], now.shown(),
            past.size(), tape.size(), (shelves[0] == null ? 0 : 1) + (shelves[1] == null ? 0 : 2),
            rowsShown, columnsShown
        };
        return what < 0 || what >= all.length ? NONE : all[what];
    }
}
