import java.util.HashMap;
import java.util.Map;
import java.util.function.ToLongFunction;

/** Promises 17 to 48: each sentence that names a boundary case has a test of its own. */
public final class BoundsOfAnswers extends Bench {
    private static final long[] SOME = {
        0L, 1L, 2L, 3L, 4L, 15L, 16L, 255L, 256L, 65535L, 65536L, 0xFFFFFFFFL, 1L << 32, 1L << 62, HIGHEST, LOWEST, -1L, -2L
    };

    public static void main(String[] args) {
        ofGrids();
        ofPlaces();
        ofBoards();
        ofNumbers();
        ofCoins();
        ofMoves();
        counts();
        nothingChanges();
        finish("promises 17 to 48");
    }

    private static void none(String what, ToLongFunction<TurnField> call) {
        refused(what, call, -1);
    }

    private static void zero(String what, ToLongFunction<TurnField> call) {
        refused(what, call, 0);
    }

    // ---- 17 to 20

    private static void ofGrids() {
        entry();
        determinant();
        shape();
        shapeOfNone();
        solution();
    }

    private static void entry() {
        sentence("Promise 17", "Of the GRID what 0: the entry, 1: that of the STEP FORM");
        TurnField x = gridOf(4, 0L, 2L, 3L, 4L, 5L, 6L, 7L, 8L, 9L, 10L, 11L, 12L, 13L, 14L, 15L, LOWEST);
        due("the first", x.entry(0, 0, 0), 0L);
        due("the last", x.entry(3, 3, 0), LOWEST);
        due("the first step", x.entry(0, 0, 1), 1L);
        due("the last step", x.entry(3, 3, 1), x.determinant() == 0L ? 0L : 1L);
        due("1 by 1", gridOf(1, LOWEST).entry(0, 0, 1), 1L);
        due("1 by 1, 0", new TurnField().entry(0, 0, 1), 0L);
        sentence("Promise 17", "0 without these");
        TurnField y = gridOf(2, 2L, 4L, 6L, 8L);
        y.invert();
        for (int what = 0; what <= 1; what++) {
            int kind = what;
            for (int side : new int[] {-1, 2, 3, 4, 5, 7, 8, 31, 32, Integer.MIN_VALUE, Integer.MAX_VALUE}) {
                due("row " + side, y.entry(side, 0, what), 0L);
                due("column " + side, y.entry(0, side, what), 0L);
                due("column " + side, y.entry(1, side, what), 0L);
                zero("row " + side, z -> z.entry(side, side, kind));
            }
        }
        for (int what : new int[] {-1, 2, 3, Integer.MIN_VALUE, Integer.MAX_VALUE}) {
            due("what " + what, y.entry(0, 0, what), 0L);
            zero("what " + what, z -> z.entry(0, 0, what));
        }
    }

    private static void determinant() {
        sentence("Promise 18", "0 for one that is not square");
        for (int rows = 1; rows <= 4; rows++) {
            for (int columns = 1; columns <= 4; columns++) {
                TurnField x = new TurnField();
                x.grid(rows, columns);
                for (int i = 0; i < rows && i < columns; i++) {
                    x.enter(i, i, 1L);
                }
                due(rows + " by " + columns, x.determinant(), rows == columns ? 1L : 0L);
            }
        }
        due("all 0", new TurnField().determinant(), 0L);
    }

    private static void shape() {
        sentence("Promise 19", "Of the GRID what 0: rows, 1: columns, 2: RANK, 3: unknowns that may be whatever, SOLUTIONS being there");
        for (int rows = 1; rows <= 4; rows++) {
            for (int columns = 1; columns <= 4; columns++) {
                TurnField x = new TurnField();
                x.grid(rows, columns);
                due("rows", x.shape(0), rows);
                due("columns", x.shape(1), columns);
                due("RANK of 0", x.shape(2), 0);
                due("all may be whatever", x.shape(3), columns - 1);
                for (int i = 0; i < rows && i < columns - 1; i++) {
                    x.enter(i, i, 2L);
                    x.enter(i, columns - 1, 3L);
                    due("RANK", x.shape(2), i + 1);
                    due("unknowns", x.shape(3), columns - 2 - i);
                }
            }
        }
        sentence("Promise 19", "NONE for others");
        for (int what : new int[] {-1, 4, 5, Integer.MIN_VALUE, Integer.MAX_VALUE}) {
            none("what " + what, x -> x.shape(what));
        }
    }

    private static void shapeOfNone() {
        sentence("Promise 19", "(-2: there are none; one column: 0 unknowns)");
        due("one column, 0", new TurnField().shape(3), 0);
        due("one column of four, 0", gridOf(1, 0L, 0L, 0L, 0L).shape(3), 0);
        due("one column, not 0", gridOf(1, 5L).shape(3), -2);
        due("one column, the last is not 0", gridOf(1, 0L, 0L, 0L, LOWEST).shape(3), -2);
        due("0 is 1", gridOf(2, 0L, 1L).shape(3), -2);
        due("a row says 0 is 1", gridOf(3, 1L, 1L, 1L, 0L, 0L, 1L).shape(3), -2);
        due("rows say unlike", gridOf(2, 2L, 4L, 2L, 5L).shape(3), -2);
        due("rows say alike", gridOf(2, 2L, 4L, 3L, mul(mul(4L, inv(2L)), 3L)).shape(3), 0);
        due("RANK of one column", gridOf(1, 0L, 0L, 0L, LOWEST).shape(2), 1);
    }

    private static void solution() {
        sentence("Promise 20", "The k-th unknown (0 the first) of the SOLUTION");
        TurnField x = gridOf(4, 1L, 0L, 0L, 5L, 0L, 1L, 0L, 6L, 0L, 0L, 1L, LOWEST);
        due("the first", x.solution(0), 5L);
        due("the second", x.solution(1), 6L);
        due("the last", x.solution(2), LOWEST);
        sentence("Promise 20", "0 without it, or if there is none");
        for (int k : new int[] {-1, 3, 4, 5, 7, 8, Integer.MIN_VALUE, Integer.MAX_VALUE}) {
            due("k " + k, x.solution(k), 0L);
            zero("k " + k, y -> y.solution(k));
        }
        TurnField none = gridOf(3, 1L, 0L, 5L, 0L, 0L, 1L);
        due("none", none.solution(0), 0L);
        due("none", none.solution(1), 0L);
        due("none", none.solution(2), 0L);
        TurnField last = gridOf(4, 1L, 0L, 0L, 5L, 0L, 0L, 0L, 1L);
        due("none, by the last column", last.solution(0), 0L);
        due("none, it itself", last.solution(3), 0L);
        due("no unknown", gridOf(1, 0L).solution(0), 0L);
        due("no unknown, none", gridOf(1, 5L).solution(0), 0L);
        TurnField y = gridOf(2, 1L, 7L, 0L, 0L);
        due("there", y.solution(0), 7L);
        y.enter(1, 1, 1L);
        due("none", y.solution(0), 0L);
        y.undo();
        due("there again", y.solution(0), 7L);
    }

    // ---- 21 to 25, 40, 41

    private static void ofPlaces() {
        roots();
        rootsOfNothing();
        rootsTooMany();
        common();
        mended();
        mendedAt();
        agrees();
        place();
        at();
    }

    private static void roots() {
        sentence("Promise 21", "The k-th of ROOTS in a LEVEL (0 the first), k NONE: how many");
        TurnField x = places(withRoots(-9L, 0L, 1L, 3L, 15L, 255L, 65535L, 65536L));
        int[] all = {0, 1, 3, 15, 255, 65535};
        int[] many = {2, 3, 4, 5, 6};
        for (int level = 0; level <= 4; level++) {
            due("how many in " + level, x.roots(level, TurnField.NONE), many[level]);
            for (int k = 0; k <= 7; k++) {
                due("root " + k + " in " + level, x.roots(level, k), k < many[level] ? all[k] : -2);
            }
        }
        TurnField seven = places(withRoots(1L, 1L, 2L, 3L, 4L, 5L, 6L, 7L));
        due("seven", seven.roots(2, -1), 7);
        due("the seventh", seven.roots(2, 6), 7);
        due("no eighth", seven.roots(2, 7), -2);
        TurnField one = places(5L, 1L);
        due("one", one.roots(4, -1), 1);
        due("it", one.roots(4, 0), 5);
        due("in LEVEL 2", one.roots(2, 0), 5);
        due("not in LEVEL 1", one.roots(1, 0), -2);
        for (int i = 0; i < 8; i++) {
            TurnField power = new TurnField();
            power.put(i, LOWEST);
            due("power " + i + " alone", power.roots(4, -1), i == 0 ? 0 : 1);
            due("power " + i + " alone, at 0", power.roots(0, 0), i == 0 ? -2 : 0);
        }
    }

    private static void rootsOfNothing() {
        sentence("Promise 21", "(all NUMBERS of that LEVEL at most, if the POLYNOMIAL is 0)");
        int[] all = {2, 4, 16, 256, 65536};
        for (int level = 0; level <= 4; level++) {
            TurnField x = new TurnField();
            due("how many of " + level, x.roots(level, -1), all[level]);
            due("the first", x.roots(level, 0), 0);
            due("the second", x.roots(level, 1), 1);
            due("the last", x.roots(level, all[level] - 1), all[level] - 1);
            due("behind the last", x.roots(level, all[level]), -2);
            due("far", x.roots(level, Integer.MAX_VALUE), -2);
        }
        TurnField y = places(5L);
        due("not 0", y.roots(4, -1), 0);
        y.undo();
        due("0 again", y.roots(4, -1), 65536);
        y.put(0, 5L);
        due("not 0 again", y.roots(4, -1), 0);
    }

    private static void rootsTooMany() {
        sentence("Promise 21", "-2: there are not so many. NONE for others");
        TurnField x = places(withRoots(1L, 4L, 5L));
        due("two", x.roots(2, -1), 2);
        due("the second", x.roots(2, 1), 5);
        due("no third", x.roots(2, 2), -2);
        due("far", x.roots(2, Integer.MAX_VALUE), -2);
        due("below LEVEL 2 none", x.roots(1, 0), -2);
        due("k -2", x.roots(2, -2), -1);
        due("k far below", x.roots(2, Integer.MIN_VALUE), -1);
        due("LEVEL -1", x.roots(-1, 0), -1);
        due("LEVEL 5", x.roots(5, 0), -1);
        for (int far : FAR) {
            none("LEVEL " + far, y -> y.roots(far, 0));
        }
        for (int level = -1; level <= 5; level += 6) {
            int one = level;
            none("LEVEL " + level, y -> y.roots(one, -1));
        }
        for (int level = 0; level <= 4; level++) {
            int one = level;
            none("k -2 in " + level, y -> y.roots(one, -2));
        }
    }

    private static void common() {
        sentence("Promise 22", "Of COMMON the coefficient of x to the k-th (0 to 3); 0 for others");
        TurnField x = places(5L, 6L, 7L, 1L, 5L, 6L, 7L, 1L);
        long[] want = {5L, 6L, 7L, 1L};
        for (int k = 0; k <= 3; k++) {
            due("k " + k, x.common(k), want[k]);
        }
        for (int k : new int[] {-1, 4, 5, 7, 8, Integer.MIN_VALUE, Integer.MAX_VALUE}) {
            due("k " + k, x.common(k), 0L);
            zero("k " + k, y -> y.common(k));
        }
        zero("both are 0", y -> new TurnField().common(0));
    }

    private static long[] cubicAt(long... f) {
        long[] values = new long[8];
        for (int i = 0; i < 8; i++) {
            values[i] = polynomialAt(i, f);
        }
        return values;
    }

    private static void mended() {
        sentence("Promise 23", "Of MENDED the coefficient of x to the k-th (0 to 3); 0 for others, or if there is none");
        long[] f = {LOWEST, -1L, 6L, 3L};
        TurnField x = places(cubicAt(f));
        for (int k = 0; k <= 3; k++) {
            due("k " + k, x.mended(k), f[k]);
        }
        for (int k : new int[] {-1, 4, 5, 7, 8, Integer.MIN_VALUE, Integer.MAX_VALUE}) {
            due("k " + k, x.mended(k), 0L);
            zero("k " + k, y -> y.mended(k));
        }
        x.put(0, 1L);
        x.put(7, 1L);
        due("two are not", x.mended(3), 3L);
        x.put(4, 1L);
        for (int k = -1; k <= 4; k++) {
            due("three are not, k " + k, x.mended(k), 0L);
        }
        x.undo();
        due("two are not again", x.mended(0), LOWEST);
    }

    private static void mendedAt() {
        sentence("Promise 24", "MENDED at x; 0 if there is none");
        long[] f = {3L, LOWEST, -1L, 6L};
        TurnField x = places(cubicAt(f));
        x.put(2, 0L);
        x.put(5, 0L);
        for (long a : SOME) {
            due("at " + a, x.mendedAt(a), polynomialAt(a, f));
        }
        due("at 2, which is not", x.mendedAt(2L), polynomialAt(2L, f));
        x.put(3, 0L);
        for (long a : SOME) {
            due("none at " + a, x.mendedAt(a), 0L);
        }
        due("MENDED is 0", new TurnField().mendedAt(-1L), 0L);
    }

    private static void agrees() {
        sentence("Promise 25", "Of PLACES what 0: how many have what MENDED has, 1: those that have not (bits); -2: there is none");
        long[] values = cubicAt(1L, 2L, 3L, 4L);
        TurnField x = places(values);
        due("all", x.agrees(0), 8);
        due("all", x.agrees(1), 0);
        x.put(7, -values[7]);
        due("all but one", x.agrees(0), 7);
        due("the last", x.agrees(1), 128);
        x.put(0, -1L);
        due("all but two", x.agrees(0), 6);
        due("the first, the last", x.agrees(1), 129);
        x.put(3, -1L);
        due("all but three", x.agrees(0), -2);
        due("all but three", x.agrees(1), -2);
        x.put(0, values[0]);
        due("two again", x.agrees(1), 136);
        due("how many", x.agrees(0), 6);
        due("the POLYNOMIAL 0", new TurnField().agrees(0), 8);
        due("the POLYNOMIAL 0", places(0L, 0L, 5L, 0L, 0L, 5L).agrees(1), 36);
        sentence("Promise 25", "NONE for others");
        for (int what : new int[] {-1, 2, 3, Integer.MIN_VALUE, Integer.MAX_VALUE}) {
            none("what " + what, y -> y.agrees(what));
            due("what " + what + ", there is none", places(1L, 2L, 4L, 9L, 77L, 3L, 0L, 5L).agrees(what), -1);
        }
    }

    private static void place() {
        sentence("Promise 40", "What a PLACE has; 0 without it");
        TurnField x = places(9L, 8L, 7L, 6L, 5L, 4L, 3L, LOWEST);
        for (int i = 0; i <= 6; i++) {
            due("place " + i, x.place(i), 9L - i);
        }
        due("place 7", x.place(7), LOWEST);
        due("place -1", x.place(-1), 0L);
        due("place 8", x.place(8), 0L);
        for (int far : FAR) {
            zero("place " + far, y -> y.place(far));
        }
    }

    private static void at() {
        sentence("Promise 41", "POLYNOMIAL (what 0), THROUGH (1) at x; 0 for others");
        TurnField x = places(1L, 2L, 3L, 4L, 5L, 6L, 7L, LOWEST);
        due("at 0", x.at(0L, 0), 1L);
        due("through 0", x.at(0L, 1), 1L);
        due("through 7", x.at(7L, 1), LOWEST);
        due("at 7", x.at(7L, 0), polynomialAt(7L, 1L, 2L, 3L, 4L, 5L, 6L, 7L, LOWEST));
        for (long a : SOME) {
            due("POLYNOMIAL at " + a, x.at(a, 0), polynomialAt(a, 1L, 2L, 3L, 4L, 5L, 6L, 7L, LOWEST));
        }
        for (int what : new int[] {-1, 2, 3, Integer.MIN_VALUE, Integer.MAX_VALUE}) {
            due("what " + what, x.at(0L, what), 0L);
            due("what " + what, x.at(-1L, what), 0L);
            zero("what " + what, y -> y.at(1L, what));
        }
    }

    // ---- 27, 28

    private static void ofBoards() {
        boards();
        boardsTooGreat();
        game();
        gameTooGreat();
    }

    private static void boards() {
        sentence("Promise 27", "what 0: how many there are in which who is to play loses, 1: the greatest LENGTH, 2: of those that have it the least, as CELLS that show heads (bits)");
        String[] sides = {
            "1up1 1up1", "1exact2 1up1", "2exact2 2exact2", "2up2 6near2", "6near3 2up1", "3up2 4ruler2", "4ruler4 3exact1", "2up6 5up6", "6up3 1near1",
            "1up1 6exact3", "2exact1 6exact1", "6exact2 2ruler2", "3near1 3near2", "2exact3 6up6", "5exact8 1up1"
        };
        TurnField one = new TurnField();
        for (String side : sides) {
            TurnField x = board(side);
            long[] want = slowBoards(countsOf(x));
            told(one, side + " heads 0 0");
            for (int what = 0; what <= 2; what++) {
                due(side + " what " + what, x.boards(what), want[what]);
                due(side + " what " + what + ", told to one that was used", one.boards(what), want[what]);
            }
        }
        TurnField none = board("2exact3 6up6");
        due("no MOVES: all", none.boards(0), 4096);
        due("no MOVES: 0", none.boards(1), 0);
        due("no MOVES: no heads", none.boards(2), 0L);
        due("the only CELL", board("1up1 1up1").boards(0), 1);
        due("its heads", board("1up1 1up1").boards(2), 1);
        TurnField wide = board("6up1 2up1 heads 5 1");
        due("the highest CELL", wide.boards(2), bits(63, 3));
    }

    private static long[] slowBoards(int[] counts) {
        Map<Long, Integer> known = new HashMap<>();
        long[] found = {0L, -1L, 0L};
        int cells = counts[0] * counts[1];
        for (int board = 0; board < 1 << cells; board++) {
            long heads = 0L;
            for (int i = 0; i < cells; i++) {
                heads |= (long) (board >> i & 1) << 6 * (i / counts[1]) + i % counts[1];
            }
            int length = lengthOf(counts, heads, known);
            found[0] += length % 2 == 0 ? 1 : 0;
            boolean better = length > found[1] || length == found[1] && heads < found[2];
            found[2] = better ? heads : found[2];
            found[1] = Math.max(found[1], length);
        }
        return found;
    }

    private static void boardsTooGreat() {
        sentence("Promise 27", "-2: more than 12 CELLS. NONE, asked first, for others");
        for (int rows = 1; rows <= 6; rows++) {
            for (int columns = 1; columns <= 6; columns++) {
                TurnField x = board(rows + "up1 " + columns + "up1");
                boolean holds = rows * columns <= 12;
                due(rows + " by " + columns + ", 0", x.boards(0), holds ? 1L << (rows * columns - 1) : -2L);
                due(rows + " by " + columns + ", 1", x.boards(1), holds ? rows * columns : -2L);
                due(rows + " by " + columns + ", 2", x.boards(2), holds ? bits((1 << rows) - 1, (1 << columns) - 1) : -2L);
                due(rows + " by " + columns + ", 3", x.boards(3), -1L);
                due(rows + " by " + columns + ", -1", x.boards(-1), -1L);
            }
        }
        for (int far : FAR) {
            none("what " + far, x -> x.boards(far));
        }
    }

    private static void game() {
        sentence("Promise 28", "Of the BOARD what 0: 1 if who is to play a MOVE wins, else 0, 1: LENGTH");
        String[] sides = {"3up2 4up2", "2near2 6ruler3", "2exact2 3up2", "1up1 1up1", "6ruler2 2exact1", "2exact2 6exact2"};
        for (String side : sides) {
            int[] counts = countsOf(board(side));
            Map<Long, Integer> known = new HashMap<>();
            int cells = counts[0] * counts[1];
            for (int board = 0; board < 1 << cells; board += cells > 8 ? 37 : 1) {
                TurnField x = board(side);
                for (int i = 0; i < cells; i++) {
                    if ((board >> i & 1) != 0) {
                        x.turn(i / counts[1], i % counts[1]);
                    }
                }
                int length = lengthOf(counts, headsOf(x), known);
                due(side + " " + board, x.game(1), length);
                due(side + " " + board + ", who wins", x.game(0), length % 2);
                due(side + " " + board + ", as WORTH says", x.game(0), x.total() == 0L ? 0 : 1);
            }
        }
        due("no heads", new TurnField().game(0), 0);
        due("no heads", new TurnField().game(1), 0);
        gameBehindActs();
    }

    private static void gameBehindActs() {
        TurnField x = board("1up1 4up1 heads 0 0 heads 0 3");
        due("two", x.game(1), 2);
        x.turn(0, 1);
        due("three", x.game(1), 3);
        x.undo();
        due("two again", x.game(1), 2);
        told(x, "1up4 4up4 heads 0 3 heads 0 0");
        due("other RULES: one", x.game(1), 1);
        x.undo();
        due("the RULES before: two", x.game(1), 2);
        told(x, "4up1 1up1 heads 3 0 heads 1 0 heads 0 0");
        due("another size: three", x.game(1), 3);
    }

    private static void gameTooGreat() {
        sentence("Promise 28", "-2: it has more than 12 CELLS. NONE, asked first, for others");
        for (int rows = 1; rows <= 6; rows++) {
            for (int columns = 1; columns <= 6; columns++) {
                TurnField x = board(rows + "up2 " + columns + "up2 heads 0 0");
                int want = rows * columns <= 12 ? 1 : -2;
                due(rows + " by " + columns + ", 0", x.game(0), want);
                due(rows + " by " + columns + ", 1", x.game(1), want);
                due(rows + " by " + columns + ", 2", x.game(2), -1);
                due(rows + " by " + columns + ", -1", x.game(-1), -1);
            }
        }
        for (int far : FAR) {
            none("what " + far, x -> x.game(far));
        }
    }

    // ---- 26, 29 to 39

    private static void ofNumbers() {
        full();
        times();
        inverse();
        root();
        power();
        order();
        level();
        least();
        trace();
        half();
        solve();
        solveNone();
        log();
        logAskedFirst();
    }

    private static void full() {
        sentence("Promise 26", "FULL ones in a LEVEL (0 to 6) what 0: the least, 1: how many");
        TurnField x = new TurnField();
        long[] many = {1L, 2L, 8L, 128L, 32768L, 2147483648L, 9208981628670443520L};
        for (int level = 0; level <= 6; level++) {
            due("how many in " + level, x.full(level, 1), many[level]);
            due("LEVEL of the least in " + level, x.level(x.full(level, 0), 0), level);
        }
        due("in LEVEL 0", x.full(0, 0), 1L);
        due("in LEVEL 1", x.full(1, 0), 2L);
        due("in LEVEL 2", x.full(2, 0), 4L);
        sentence("Promise 26", "NONE for others");
        for (int without : new int[] {-1, 7, 8, Integer.MIN_VALUE, Integer.MAX_VALUE}) {
            none("LEVEL " + without, y -> y.full(without, 0));
            none("LEVEL " + without, y -> y.full(without, 1));
        }
        for (int without : new int[] {-1, 2, Integer.MIN_VALUE, Integer.MAX_VALUE}) {
            none("what " + without, y -> y.full(0, without));
            none("what " + without, y -> y.full(6, without));
        }
    }

    private static void times() {
        sentence("Promise 29", "PRODUCT");
        TurnField x = new TurnField();
        for (long a : SOME) {
            due(a + " times 0", x.times(a, 0L), 0L);
            due("0 times " + a, x.times(0L, a), 0L);
            due(a + " times 1", x.times(a, 1L), a);
            due("1 times " + a, x.times(1L, a), a);
            due(a + " times itself", x.times(a, a), mul(a, a));
            due(a + " times -1", x.times(a, -1L), mul(a, -1L));
        }
        for (int i = 0; i < 64; i++) {
            due("2 to the " + i + ", 2 to the 63rd", x.times(1L << i, LOWEST), mul(1L << i, LOWEST));
            due("2 to the 31st, 2 to the " + i, x.times(1L << 31, 1L << i), mul(1L << 31, 1L << i));
        }
    }

    private static void inverse() {
        sentence("Promise 30", "INVERSE; 0 for 0");
        TurnField x = new TurnField();
        due("0", x.inverse(0L), 0L);
        due("1", x.inverse(1L), 1L);
        for (int i = 0; i < 64; i++) {
            due("2 to the " + i, x.inverse(1L << i), inv(1L << i));
            due("all below it", x.inverse((1L << i) - 1L), inv((1L << i) - 1L));
        }
        due("all", x.inverse(-1L), inv(-1L));
    }

    private static void root() {
        sentence("Promise 31", "ROOT");
        TurnField x = new TurnField();
        due("0", x.root(0L), 0L);
        due("1", x.root(1L), 1L);
        for (int i = 0; i < 64; i++) {
            due("2 to the " + i, x.root(1L << i), pow(1L << i, LOWEST));
        }
        due("all", x.root(-1L), pow(-1L, LOWEST));
    }

    private static void power() {
        sentence("Promise 32", "POWER n");
        TurnField x = new TurnField();
        long[] exponents = {0L, 1L, 2L, 3L, HIGHEST, HIGHEST - 1L, 1L << 62, 1L << 32};
        for (long a : new long[] {0L, 1L, 2L, 255L, 256L, LOWEST, -1L}) {
            for (long n : exponents) {
                due(a + " POWER " + n, x.power(a, n), pow(a, n));
                due(a + " POWER " + -n, x.power(a, -n), inv(pow(a, n)));
            }
            due(a + ", lowest POWER", x.power(a, LOWEST), inv(pow(a, LOWEST)));
            due(a + ", lowest POWER but one", x.power(a, LOWEST + 1L), inv(pow(a, HIGHEST)));
        }
        due("0, POWER 0", x.power(0L, 0L), 1L);
        due("0, POWER 1", x.power(0L, 1L), 0L);
        due("0, POWER -1", x.power(0L, -1L), 0L);
        due("0, lowest POWER", x.power(0L, LOWEST), 0L);
    }

    private static void order() {
        sentence("Promise 33", "ORDER");
        TurnField x = new TurnField();
        due("0", x.order(0L), 0L);
        due("1", x.order(1L), 1L);
        due("2", x.order(2L), 3L);
        due("3", x.order(3L), 3L);
        for (int level = 1; level <= 6; level++) {
            due("of the least FULL one", x.order(x.full(level, 0)), level == 6 ? -1L : (1L << (1 << level)) - 1L);
        }
        long full = x.full(6, 0);
        long[] primes = {3L, 5L, 17L, 257L, 641L, 65537L, 6700417L};
        for (int set = 0; set < 128; set++) {
            long order = 1L;
            for (int i = 0; i < primes.length; i++) {
                order *= (set >> i & 1) != 0 ? primes[i] : 1L;
            }
            due("of ORDER " + Long.toUnsignedString(order), x.order(pow(full, Long.divideUnsigned(-1L, order))), order);
        }
    }

    private static void level() {
        sentence("Promise 34", "Of a NUMBER what 0: LEVEL, 1: DEGREE. NONE for others");
        TurnField x = new TurnField();
        due("0", x.level(0L, 0), 0);
        due("DEGREE of 0", x.level(0L, 1), 1);
        for (int i = 0; i < 64; i++) {
            int level = i == 0 ? 0 : 32 - Integer.numberOfLeadingZeros(i);
            due("2 to the " + i, x.level(1L << i, 0), level);
            due("all up to it", x.level(-1L >>> (63 - i), 0), level);
            due("its DEGREE", x.level(1L << i, 1), 1 << level);
        }
        for (int what : new int[] {-1, 2, 3, Integer.MIN_VALUE, Integer.MAX_VALUE}) {
            none("what " + what, y -> y.level(4L, what));
            none("what " + what, y -> y.level(0L, what));
        }
    }

    private static void least() {
        sentence("Promise 35", "LEAST POLYNOMIAL");
        TurnField x = new TurnField();
        due("0", x.least(0L), 0L);
        due("1", x.least(1L), 1L);
        due("2", x.least(2L), 3L);
        due("3", x.least(3L), 3L);
        for (long a : SOME) {
            int degree = x.level(a, 1);
            long bits = x.least(a);
            long sum = pow(a, degree);
            for (int i = 0; i < degree; i++) {
                sum ^= (bits >>> i & 1L) != 0L ? pow(a, i) : 0L;
            }
            due("at " + a, sum, 0L);
            due("of " + a + ", that of the highest is not told", degree == 64 ? 0L : bits >>> degree, 0L);
        }
    }

    private static void trace() {
        sentence("Promise 36", "TRACE in a LEVEL (0 to 6); NONE without it, or if the NUMBER's own is above it");
        TurnField x = new TurnField();
        due("of 0 in 0", x.trace(0L, 0), 0);
        due("of 1 in 0", x.trace(1L, 0), 1);
        for (int level = 0; level <= 6; level++) {
            long last = level == 6 ? -1L : (1L << (1 << level)) - 1L;
            due("the last one of LEVEL " + level, x.trace(last, level), 1);
            due("all but its highest bit", x.trace(last >>> 1, level), 0);
            due("the highest bit alone", x.trace(last ^ last >>> 1, level), 1);
            due("of 0 in " + level, x.trace(0L, level), 0);
            if (level < 6) {
                due("the next one", x.trace(last + 1L, level), -1);
                due("all bits", x.trace(-1L, level), -1);
                due("the next one, a LEVEL above", x.trace(last + 1L, level + 1), level == 0 ? 1 : 0);
            }
        }
        for (int level : new int[] {-1, 7, 8, Integer.MIN_VALUE, Integer.MAX_VALUE}) {
            none("LEVEL " + level, y -> y.trace(0L, level));
            none("LEVEL " + level, y -> y.trace(1L, level));
            none("LEVEL " + level, y -> y.trace(-1L, level));
        }
    }

    private static void half() {
        sentence("Promise 37", "The lesser NUMBER whose PRODUCT by itself, and it, are a together (SUM)");
        TurnField x = new TurnField();
        due("1", x.half(1L), 2L);
        for (int i = 0; i < 63; i++) {
            long a = 1L << i;
            long y = x.half(a);
            due("of 2 to the " + i, mul(y, y) ^ y, a);
            due("the lesser one", y & 1L, 0L);
            long z = x.half(-1L >>> (63 - i));
            due("of all up to it", mul(z, z) ^ z, -1L >>> (63 - i));
            due("the lesser one", z & 1L, 0L);
        }
        sentence("Promise 37", "0, if there is none (or a is 0)");
        due("0", x.half(0L), 0L);
        due("the highest bit", x.half(LOWEST), 0L);
        due("all bits", x.half(-1L), 0L);
        due("the highest and the lowest", x.half(LOWEST + 1L), 0L);
        due("all but the lowest", x.half(-2L), 0L);
        long most = x.half(HIGHEST);
        due("all but the highest: there is one", mul(most, most) ^ most, HIGHEST);
    }

    private static void solve() {
        sentence("Promise 38", "Of x with x times x, p times x and q together 0 what 0: how many, 1: the least, 2: the greatest");
        TurnField x = new TurnField();
        for (long q : SOME) {
            due("p 0: one, q " + q, x.solve(0L, q, 0), 1L);
            due("p 0: the ROOT, q " + q, x.solve(0L, q, 1), pow(q, LOWEST));
            due("p 0: the same, q " + q, x.solve(0L, q, 2), pow(q, LOWEST));
        }
        for (long p : new long[] {1L, 2L, 65536L, LOWEST, -1L}) {
            due("q 0: two, p " + p, x.solve(p, 0L, 0), 2L);
            due("q 0: 0, p " + p, x.solve(p, 0L, 1), 0L);
            due("q 0: p, p " + p, x.solve(p, 0L, 2), p);
            for (long r : SOME) {
                long q = mul(r, r ^ p);
                boolean less = Long.compareUnsigned(r, r ^ p) < 0;
                due("least of " + r + ", " + (r ^ p), x.solve(p, q, 1), less ? r : r ^ p);
                due("greatest of " + r + ", " + (r ^ p), x.solve(p, q, 2), less ? r ^ p : r);
            }
        }
    }

    private static void solveNone() {
        sentence("Promise 38", "(0 without). 0 for others");
        TurnField x = new TurnField();
        for (long p : new long[] {1L, 2L, 65536L, LOWEST, -1L}) {
            // x is p times y: y y and y are q by p p, which has the highest bit then
            long q = mul(mul(p, p), LOWEST + 5L);
            for (int what = 0; what <= 2; what++) {
                due("none, p " + p, x.solve(p, q, what), 0L);
            }
        }
        for (int what : new int[] {-1, 3, 4, Integer.MIN_VALUE, Integer.MAX_VALUE}) {
            zero("what " + what, y -> y.solve(1L, 1L, what));
            zero("what " + what, y -> y.solve(0L, 6L, what));
            zero("what " + what, y -> y.solve(5L, 0L, what));
        }
    }

    private static int slowLog(long a, long base) {
        long power = 1L;
        for (int n = 0; n < 65536; n++) {
            if (power == a) {
                return n;
            }
            power = mul(power, base);
        }
        return -1;
    }

    private static void log() {
        sentence("Promise 39", "The least n from 0 on of which POWER n of the base is a; NONE: there is none");
        for (int base = 0; base < 16; base++) {
            TurnField x = new TurnField();
            for (int a = 0; a < 18; a++) {
                due(a + " by " + base, x.log(a, base), slowLog(a, base));
            }
        }
        TurnField x = new TurnField();
        due("1 by 0", x.log(1L, 0L), 0);
        due("0 by 0", x.log(0L, 0L), 1);
        due("5 by 0", x.log(5L, 0L), -1);
        due("0 by 5", x.log(0L, 5L), -1);
        due("1 by 1", x.log(1L, 1L), 0);
        due("5 by 1", x.log(5L, 1L), -1);
        due("1 by 65535", x.log(1L, 65535L), 0);
        due("65535 by itself", x.log(65535L, 65535L), 1);
        long full = x.full(4, 0);
        for (int n : new int[] {0, 1, 2, 32767, 32768, 65533, 65534}) {
            due("POWER " + n + " of a FULL one", x.log(pow(full, n), full), n);
        }
        due("POWER 65535 is POWER 0", x.log(pow(full, 65535L), full), 0);
        for (int part : new int[] {3, 5, 17, 257, 15, 51, 85, 255, 771, 4369, 21845}) {
            long base = pow(full, part);
            int last = 65535 / part - 1;
            due("the last POWER, by " + part, x.log(pow(base, last), base), last);
            due("the first one, by " + part, x.log(base, base), 1);
            due("none, by " + part, x.log(full, base), -1);
        }
    }

    private static void logAskedFirst() {
        sentence("Promise 39", "-2: a LEVEL is above 4 (asked first)");
        TurnField x = new TurnField();
        for (long above : new long[] {65536L, 65537L, 1L << 32, HIGHEST, LOWEST, -1L}) {
            for (long other : new long[] {0L, 1L, 2L, 65535L, above}) {
                due(above + " by " + other, x.log(above, other), -2);
                due(other + " by " + above, x.log(other, above), -2);
            }
        }
        due("LEVEL 4 just", x.log(65535L, 65535L), 1);
    }

    // ---- 42, 43, 44, 47

    private static void ofCoins() {
        worth();
        cell();
        cellWithout();
        total();
        sets();
    }

    private static void worth() {
        sentence("Promise 42", "WORTH of coin n (0 to 11) by the RULE of rows (side 0), columns (1); NONE without these");
        int[] turtles = {1, 2, 4, 7, 8, 11, 13, 14, 16, 19, 21, 22};
        for (int n = 0; n <= 11; n++) {
            due("a new one asked first, up 3, coin " + n, board("1up3 1up1").worth(0, n), turtles[n]);
            due("beyond the board, up 3, coin " + n, board("1up1 1up3").worth(1, n), turtles[n]);
        }
        TurnField x = board("6exact1 6ruler8");
        due("the first", x.worth(0, 0), 1);
        due("the last", x.worth(0, 11), 1);
        due("the last", x.worth(1, 11), 4);
        told(x, "6ruler8 6exact1");
        due("told anew", x.worth(0, 11), 4);
        due("told anew", x.worth(1, 11), 1);
        x.undo();
        due("undone", x.worth(1, 11), 4);
        for (int side = 0; side <= 1; side++) {
            int one = side;
            for (int n : new int[] {-1, 12, 13, Integer.MIN_VALUE, Integer.MAX_VALUE}) {
                none("coin " + n, y -> y.worth(one, n));
            }
        }
        for (int side : new int[] {-1, 2, 3, Integer.MIN_VALUE, Integer.MAX_VALUE}) {
            none("side " + side, y -> y.worth(side, 0));
            none("side " + side, y -> y.worth(side, 11));
        }
    }

    private static void cell() {
        sentence("Promise 43", "WORTH of a CELL, what 0: by the PRODUCT, 1: LEAST EXCLUDED, 2: 1 if it shows heads, else 0");
        for (int i = 0; i < 36; i++) {
            long want = mul(1L << i / 6, 1L << i % 6);
            due("a new one asked first, " + i, board("6up8 6up8").cell(i / 6, i % 6, 0), want);
            due("a new one asked first, " + i, board("6up8 6up8").cell(i / 6, i % 6, 1), want);
            TurnField x = board("6up8 6up8");
            x.turn(i / 6, i % 6);
            for (int k = 0; k < 36; k++) {
                due("heads of " + k, x.cell(k / 6, k % 6, 2), k == i ? 1 : 0);
            }
        }
        TurnField twice = board("6up8 6near2");
        due("by one RULE", twice.cell(5, 5, 0), mul(32L, 3L));
        told(twice, "6near2 6near2");
        due("by another one", twice.cell(5, 5, 0), mul(3L, 3L));
        due("by another one", twice.cell(5, 5, 1), mul(3L, 3L));
        twice.undo();
        due("by the first", twice.cell(5, 5, 1), mul(32L, 3L));
    }

    private static void cellWithout() {
        sentence("Promise 43", "NONE without these");
        for (int what = 0; what <= 2; what++) {
            int kind = what;
            for (int side : new int[] {-1, 3, 5, 6, Integer.MIN_VALUE, Integer.MAX_VALUE}) {
                none("row " + side, x -> x.cell(side, 0, kind));
                none("column " + side, x -> x.cell(0, side, kind));
                none("both " + side, x -> x.cell(side, side, kind));
            }
            due("row 2 of 2", busy().cell(2, 0, what), -1);
            TurnField all = board("6up1 6up1");
            due("row 5 of 6", all.cell(5, 0, what), what == 2 ? 0 : 1);
            due("row 6 of 6", all.cell(6, 0, what), -1);
            due("column 6 of 6", all.cell(0, 6, what), -1);
            due("column 6 of 6", all.cell(5, 6, what), -1);
        }
        for (int what : new int[] {-1, 3, 4, Integer.MIN_VALUE, Integer.MAX_VALUE}) {
            none("what " + what, x -> x.cell(0, 0, what));
        }
    }

    private static void total() {
        sentence("Promise 44", "WORTH of the BOARD");
        due("no heads", new TurnField().total(), 0L);
        due("one, asked first", board("6up8 6up8 heads 5 5").total(), mul(32L, 32L));
        due("the first", board("6up8 6up8 heads 0 0").total(), 1L);
        TurnField x = allHeads(6, "up8", 6, "up8");
        due("all", x.total(), mul(63L, 63L));
        told(x, "6up1 6up1 heads 5 5");
        due("told anew", x.total(), 1L);
        x.undo();
        due("undone", x.total(), mul(63L, 63L));
        due("heads without WORTH", board("1exact2 1up1 heads 0 0").total(), 0L);
    }

    private static void sets() {
        sentence("Promise 47", "How many sets with greatest n (0 to 11) may be turned by the RULE of a side; NONE without these");
        for (int kind = 0; kind < 4; kind++) {
            for (int k = 1; k <= 8; k++) {
                TurnField x = board("1up1 1" + KINDS[kind] + k);
                TurnField y = board("1" + KINDS[kind] + k + " 1up1");
                for (int n = 0; n <= 11; n++) {
                    int many = 0;
                    for (int set = 1 << n; set < 2 << n; set++) {
                        many += mayBe(set, kind, k) ? 1 : 0;
                    }
                    due(KINDS[kind] + k + " columns, coin " + n, x.sets(1, n), many);
                    due(KINDS[kind] + k + " rows, coin " + n, y.sets(0, n), many);
                }
            }
        }
        due("none at all", board("1exact8 1up1").sets(0, 6), 0);
        due("the first", board("1exact8 1up1").sets(0, 7), 1);
        for (int side = 0; side <= 1; side++) {
            int one = side;
            for (int n : new int[] {-1, 12, 13, Integer.MIN_VALUE, Integer.MAX_VALUE}) {
                none("coin " + n, z -> z.sets(one, n));
            }
        }
        for (int side : new int[] {-1, 2, 3, Integer.MIN_VALUE, Integer.MAX_VALUE}) {
            none("side " + side, z -> z.sets(side, 0));
            none("side " + side, z -> z.sets(side, 11));
        }
    }

    // ---- 45, 46

    private static final String[] BOARDS = {
        "3up2 3up2", "3up2 3up2 heads 0 0", "3up2 3up2 heads 2 2 heads 1 1 heads 0 1", "6up2 6near3 heads 5 5 heads 2 3", "1up1 6up6 heads 0 5",
        "2exact2 2exact2 heads 1 1 heads 0 1", "2exact3 2up1 heads 1 1", "6ruler6 1up1 heads 5 0 heads 3 0 heads 0 0", "1up1 2up1 heads 0 0 heads 0 1"
    };

    private static void ofMoves() {
        moves();
        move();
        moveTooFar();
        moveWithout();
    }

    private static long worthOf(TurnField x, long heads) {
        long sum = 0L;
        for (int i = 0; i < 36; i++) {
            sum ^= (heads >>> i & 1L) != 0L ? x.cell(i / 6, i % 6, 0) : 0L;
        }
        return sum;
    }

    private static void moves() {
        sentence("Promise 45", "How many MOVES (what 0), that win (1) there are; NONE for others");
        for (String text : BOARDS) {
            TurnField x = board(text);
            long heads = headsOf(x);
            int wins = 0;
            long[] all = movesOf(countsOf(x), heads);
            for (long move : all) {
                wins += worthOf(board(text), heads ^ move) == 0L ? 1 : 0;
            }
            due(text, x.moves(0), all.length);
            due(text + ", a new one asked first", board(text).moves(0), all.length);
            due(text + ", that win", x.moves(1), wins);
            due(text + ", a new one asked first", board(text).moves(1), wins);
        }
        due("no heads", new TurnField().moves(0), 0);
        due("no heads", new TurnField().moves(1), 0);
        due("all sets of all CELLS", allHeads(6, "up6", 6, "up6").moves(0), 63 * 63);
        for (int what : new int[] {-1, 2, 3, Integer.MIN_VALUE, Integer.MAX_VALUE}) {
            none("what " + what, x -> x.moves(what));
        }
    }

    private static void move() {
        sentence("Promise 46", "Of the k-th (0 the first) of these what 1: its rows, 2: its columns, 3: WORTH of the BOARD behind it; which 0: MOVES, 1: that win");
        for (String text : BOARDS) {
            TurnField x = board(text);
            long heads = headsOf(x);
            long[] all = movesOf(countsOf(x), heads);
            int wins = 0;
            for (int k = 0; k < all.length; k++) {
                TurnField y = board(text);
                long behind = worthOf(board(text), heads ^ all[k]);
                due(text + " behind move " + k, y.move(0, k, 3), behind);
                due(text + " move " + k, bits(y.move(0, k, 1), y.move(0, k, 2)), all[k]);
                if (behind == 0L) {
                    due(text + " win " + wins, bits(y.move(1, wins, 1), y.move(1, wins, 2)), all[k]);
                    due(text + " behind win " + wins, y.move(1, wins, 3), 0);
                    wins++;
                }
            }
        }
        due("a new one asked first", board("2up1 1up1 heads 1 0").move(0, 0, 1), 2);
        due("a new one asked first", board("2up1 1up1 heads 1 0").move(1, 0, 2), 1);
        due("a new one asked first", board("2up1 2up2 heads 1 1").move(0, 1, 3), 1);
    }

    private static void moveTooFar() {
        sentence("Promise 46", "-2: there are not so many");
        for (String text : BOARDS) {
            TurnField x = board(text);
            for (int which = 0; which <= 1; which++) {
                int many = x.moves(which);
                for (int what = 1; what <= 3; what++) {
                    due(text + " behind the last", x.move(which, many, what), -2);
                    due(text + " far", x.move(which, Integer.MAX_VALUE, what), -2);
                    due(text + " far", x.move(which, 1 << 30, what), -2);
                    if (many > 0) {
                        due(text + " the last", x.move(which, many - 1, what) >= 0 ? 1 : 0, 1);
                    }
                }
            }
        }
        TurnField all = allHeads(6, "up6", 6, "up6");
        due("the last of all", all.move(0, 63 * 63 - 1, 1), 63);
        due("behind the last of all", all.move(0, 63 * 63, 1), -2);
    }

    private static void moveWithout() {
        sentence("Promise 46", "NONE, asked first, for others, what not 1 to 3");
        for (int which = 0; which <= 1; which++) {
            int one = which;
            for (int what : new int[] {-1, 0, 4, Integer.MIN_VALUE, Integer.MAX_VALUE}) {
                none("what " + what, x -> x.move(one, 0, what));
                none("what " + what + ", far", x -> x.move(one, Integer.MAX_VALUE, what));
            }
            for (int what = 1; what <= 3; what++) {
                int kind = what;
                none("k -1", x -> x.move(one, -1, kind));
                none("k far below", x -> x.move(one, Integer.MIN_VALUE, kind));
            }
        }
        for (int which : new int[] {-1, 2, 3, Integer.MIN_VALUE, Integer.MAX_VALUE}) {
            for (int what = 1; what <= 3; what++) {
                int kind = what;
                none("which " + which, x -> x.move(which, 0, kind));
                none("which " + which + ", far", x -> x.move(which, 99, kind));
            }
        }
    }

    // ---- 48

    private static void dueCounts(String what, TurnField x, int... want) {
        for (int i = 0; i < want.length; i++) {
            due(what + ", count " + i, x.count(i), want[i]);
        }
    }

    private static void counts() {
        sentence("Promise 48", "What 0: rows, 1: columns, 2, 3: kinds of their RULES, 4, 5: their K, 6: CELLS that show heads, 7: ACTS that can be UNDONE, 8: bytes of the TAPE, 9: SHELVES, as bits, 10: rows that have heads (bits), 11: columns");
        dueCounts("at first", new TurnField(), 3, 3, 0, 0, 2, 2, 0, 0, 0, 0, 0, 0);
        dueCounts("busy", busy(), 2, 3, 0, 3, 2, 1, 3, 7, 20, 1, 3, 7);
        dueCounts("worn", worn(), 3, 3, 0, 0, 2, 2, 1, 10, 0, 3, 2, 2);
        TurnField most = allHeads(6, "ruler8", 6, "exact8");
        feedText(most, times(" ", 120));
        most.keep(1);
        dueCounts("most", most, 6, 6, 2, 1, 8, 8, 36, 10, 120, 2, 63, 63);
        for (int i = 0; i < 36; i++) {
            TurnField x = board("6up1 6up1");
            x.turn(i / 6, i % 6);
            due("rows of " + i, x.count(10), 1 << i / 6);
            due("columns of " + i, x.count(11), 1 << i % 6);
        }
        TurnField shelf = new TurnField();
        shelf.keep(0);
        due("shelf 0", shelf.count(9), 1);
        shelf.keep(1);
        due("both", shelf.count(9), 3);
        sentence("Promise 48", "NONE for others");
        for (int what : new int[] {-1, 12, 13, Integer.MIN_VALUE, Integer.MAX_VALUE}) {
            none("what " + what, x -> x.count(what));
        }
    }

    // ---- all of them

    private static void nothingChanges() {
        sentence("Not promised", "Nothing is promised beyond the answers and state changes described above: what only answers changes nothing");
        TurnField x = busy();
        TurnField y = worn();
        for (TurnField one : new TurnField[] {x, y}) {
            askAll(one);
        }
        alike("all asked", x, busy());
        alike("all asked, ten acts", y, worn());
    }

    private static void askAll(TurnField x) {
        x.entry(0, 0, 1);
        x.determinant();
        x.shape(2);
        x.shape(3);
        x.solution(0);
        x.roots(4, -1);
        x.common(0);
        x.mended(3);
        x.mendedAt(5L);
        x.agrees(0);
        x.full(6, 0);
        x.boards(2);
        x.game(1);
        x.least(-1L);
        x.log(5L, 4L);
        x.at(9L, 0);
        x.at(9L, 1);
        x.worth(0, 11);
        x.cell(0, 0, 1);
        x.total();
        x.moves(1);
        x.move(0, 0, 3);
        x.sets(1, 11);
    }
}
