import java.util.HashMap;
import java.util.Map;

/** The sentences of the document's Terms (parts I, II, III) that name boundary cases, each with a test of its own. */
public final class BoundsOfTerms extends Bench {
    private static final long[] SOME = {
        0L, 1L, 2L, 3L, 4L, 15L, 16L, 255L, 256L, 65535L, 65536L, 0xFFFFFFFFL, 1L << 32, 1L << 62, HIGHEST, LOWEST, -1L, -2L
    };

    public static void main(String[] args) {
        calls();
        constants();
        numbers();
        rules();
        boardsAndMoves();
        texts();
        faults();
        lengths();
        grids();
        placesTogether();
        acts();
        noneFirst();
        finish("terms");
    }

    // ==== What it is, the public face

    private static void calls() {
        sentence("What it is", "An object is used for at most 512 calls after it has been made");
        TurnField turned = new TurnField();
        for (int call = 1; call <= 512; call++) {
            due("turn, call " + call, turned.turn(2, 1), call % 2);
        }
        TurnField put = new TurnField();
        for (int call = 1; call <= 511; call++) {
            due("put, call " + call, put.put(call % 8, call), 1);
        }
        due("undo, call 512", put.undo(), 9);
        TurnField fed = new TurnField();
        for (int call = 1; call <= 512; call++) {
            due("feed, call " + call, fed.feed(0, 0, 0, 0, 0), call <= 6 ? 20 * call : -1);
        }
        TurnField told = new TurnField();
        for (int call = 1; call <= 512; call += 4) {
            due("feed, call " + call, told.feed(0x32757031, 0x20337570, 0x32202020, 0x20202020, 0x20202020), 20);
            due("tell", told.tell(), 0);
            due("keep", told.keep(call % 2), 0);
            due("back, call " + (call + 3), told.back(call % 2), 0);
        }
        TurnField none = new TurnField();
        for (int call = 1; call <= 512; call++) {
            due("undo, call " + call, none.undo(), -1);
        }
    }

    private static void constants() {
        sentence("The public face", "NONE = -1");
        due("NONE", TurnField.NONE, -1);
    }

    // ==== I. NUMBERS, PLACES

    private static void numbers() {
        numbersWithoutSign();
        sums();
        twosAsUsual();
        sharedOut();
        levels();
        inverses();
        rootsOfNumbers();
        powers();
        powersBelowNone();
        powerNoneOfNone();
        orders();
        degrees();
        leastPolynomials();
        traces();
        placesAtFirst();
        polynomialAtNone();
        through();
    }

    private static void numbersWithoutSign() {
        sentence("I", "the highest bit is 2 to the 63rd; held against one another without sign");
        TurnField x = new TurnField();
        due("level of the highest bit", x.level(LOWEST, 0), 6);
        due("least of 0, -1", x.solve(-1L, 0L, 1), 0L);
        due("greatest of 0, -1", x.solve(-1L, 0L, 2), -1L);
        due("least of 5, 5 and the highest bit", x.solve(LOWEST, mul(5L, 5L ^ LOWEST), 1), 5L);
        due("greatest of these", x.solve(LOWEST, mul(5L, 5L ^ LOWEST), 2), 5L ^ LOWEST);
        due("least of -1, highest", x.solve(HIGHEST, mul(-1L, LOWEST), 1), LOWEST);
        due("greatest of these", x.solve(HIGHEST, mul(-1L, LOWEST), 2), -1L);
        due("least of 0, 1", x.solve(1L, 0L, 1), 0L);
        due("greatest of 0, 1", x.solve(1L, 0L, 2), 1L);
    }

    private static void sums() {
        sentence("I", "SUM of two: each bit that just one of them has");
        TurnField x = places(-1L, LOWEST, 0L);
        x.reckon(3, 0, 1, 0);
        due("all and the highest", x.place(3), HIGHEST);
        x.reckon(3, 0, 0, 0);
        due("all and all", x.place(3), 0L);
        x.reckon(3, 1, 2, 0);
        due("the highest and none", x.place(3), LOWEST);
    }

    private static void twosAsUsual() {
        sentence("I", "2 to the 2 to the k, k 0 to 5, times a lesser one is as usual, times itself it is it and half of it");
        TurnField x = new TurnField();
        for (int k = 0; k <= 5; k++) {
            long two = 1L << (1 << k);
            due("times 0, " + k, x.times(two, 0L), 0L);
            due("times 1, " + k, x.times(two, 1L), two);
            due("times the greatest lesser one, " + k, x.times(two, two - 1L), two * (two - 1L));
            due("the other way round, " + k, x.times(two - 1L, two), two * (two - 1L));
            due("times itself, " + k, x.times(two, two), two + two / 2L);
            due("times the next one, " + k, x.times(two, two + 1L), two / 2L);
        }
    }

    private static void sharedOut() {
        sentence("I", "a PRODUCT is shared out to SUMS");
        TurnField x = new TurnField();
        for (long a : SOME) {
            for (long b : SOME) {
                due(a + " times " + b, x.times(a, b), mul(a, b));
            }
        }
    }

    private static void levels() {
        sentence("I", "LEVEL of a NUMBER: the least k, 0 to 6, so that it is less than 2 to the 2 to the k");
        TurnField x = new TurnField();
        due("0", x.level(0L, 0), 0);
        for (int k = 0; k <= 5; k++) {
            due("less by 1, " + k, x.level((1L << (1 << k)) - 1L, 0), k);
            due("not less, " + k, x.level(1L << (1 << k), 0), k + 1);
        }
        due("the highest bit alone", x.level(LOWEST, 0), 6);
        due("all bits", x.level(-1L, 0), 6);
        due("all but the highest", x.level(HIGHEST, 0), 6);
    }

    private static void inverses() {
        sentence("I", "INVERSE of one that is not 0: that by which the PRODUCT is 1");
        TurnField x = new TurnField();
        for (long a : SOME) {
            due("of " + a, x.inverse(a), inv(a));
            due("PRODUCT by it, " + a, mul(a, x.inverse(a)), a == 0L ? 0L : 1L);
        }
    }

    private static void rootsOfNumbers() {
        sentence("I", "ROOT: that whose PRODUCT by itself it is");
        TurnField x = new TurnField();
        for (long a : SOME) {
            due("of " + a, mul(x.root(a), x.root(a)), a);
        }
    }

    private static void powers() {
        sentence("I", "POWER n: 1, n times: times a");
        TurnField x = new TurnField();
        for (long a : SOME) {
            due("POWER 0 of " + a, x.power(a, 0L), 1L);
            due("POWER 1 of " + a, x.power(a, 1L), a);
            due("POWER 2 of " + a, x.power(a, 2L), mul(a, a));
            due("greatest POWER of " + a, x.power(a, HIGHEST), pow(a, HIGHEST));
        }
    }

    private static void powersBelowNone() {
        sentence("I", "for n below 0 the INVERSE of POWER -n (of 0: 0)");
        TurnField x = new TurnField();
        for (long a : SOME) {
            due("POWER -1 of " + a, x.power(a, -1L), inv(a));
            due("POWER -2 of " + a, x.power(a, -2L), inv(mul(a, a)));
            due("POWER -highest of " + a, x.power(a, -HIGHEST), inv(pow(a, HIGHEST)));
            due("lowest POWER of " + a, x.power(a, LOWEST), inv(pow(a, LOWEST)));
        }
        due("POWER -1 of 0", x.power(0L, -1L), 0L);
        due("lowest POWER of 0", x.power(0L, LOWEST), 0L);
    }

    private static void powerNoneOfNone() {
        sentence("I", "POWER 0 of 0 is 1");
        TurnField x = new TurnField();
        due("power", x.power(0L, 0L), 1L);
        due("POWER 1 of 0", x.power(0L, 1L), 0L);
        due("reckoned", x.reckon(0, 1, 2, 4), 1);
        due("it", x.place(0), 1L);
        due("at 0, PLACE 0 is 1", x.at(0L, 0), 1L);
        due("log", x.log(1L, 0L), 0);
    }

    private static void orders() {
        sentence("I", "ORDER: the least n from 1 on of which POWER n is 1 (without sign; 0 for 0)");
        TurnField x = new TurnField();
        due("of 0", x.order(0L), 0L);
        due("of 1", x.order(1L), 1L);
        due("of 2", x.order(2L), 3L);
        long[] primes = {3L, 5L, 17L, 257L, 641L, 65537L, 6700417L};
        for (long a : SOME) {
            long order = x.order(a);
            due("POWER ORDER of " + a, pow(a, order), 1L);
            for (long prime : primes) {
                boolean less = a != 0L && Long.remainderUnsigned(order, prime) == 0L
                    && pow(a, Long.divideUnsigned(order, prime)) == 1L;
                due("less for " + a + " by " + prime, less ? 1L : 0L, 0L);
            }
        }
        due("of a FULL one of 64 bits, without sign", x.order(x.full(6, 0)), -1L);
    }

    private static void degrees() {
        sentence("I", "CONJUGATES: what comes of a by PRODUCTS by itself, again and again, it too; DEGREE: how many unlike ones");
        TurnField x = new TurnField();
        for (long a : SOME) {
            int n = 1;
            for (long c = mul(a, a); c != a; c = mul(c, c)) {
                n++;
            }
            due("DEGREE of " + a, x.level(a, 1), n);
        }
        due("of 0", x.level(0L, 1), 1);
        due("of 1", x.level(1L, 1), 1);
        due("of all bits", x.level(-1L, 1), 64);
    }

    private static void leastPolynomials() {
        sentence("I", "its coefficients are 0, 1: bit i for x to the i, below DEGREE (that of the highest is not told)");
        TurnField x = new TurnField();
        due("x, of 0", x.least(0L), 0L);
        due("x and 1, of 1", x.least(1L), 1L);
        due("x x and x and 1, of 2", x.least(2L), 3L);
        for (long a : SOME) {
            due("of " + a, x.least(a), conjugatesTogether(a));
        }
    }

    private static long conjugatesTogether(long a) {
        long[] f = new long[65];
        f[0] = 1L;
        int degree = 0;
        long c = a;
        do {
            for (int i = ++degree; i >= 0; i--) {
                f[i] = mul(f[i], c) ^ (i > 0 ? f[i - 1] : 0L);
            }
            c = mul(c, c);
        } while (c != a);
        long bits = 0L;
        for (int i = 0; i < degree; i++) {
            bits |= f[i] << i;
        }
        return bits;
    }

    private static void traces() {
        sentence("I", "TRACE in LEVEL k of a NUMBER of LEVEL k at most: the SUM of it and of what comes of it by 1 to 2 to the k, less 1, such PRODUCTS");
        TurnField x = new TurnField();
        for (long a : SOME) {
            for (int k = x.level(a, 0); k <= 6; k++) {
                long sum = a;
                long c = a;
                for (int i = 1; i <= (1 << k) - 1; i++) {
                    c = mul(c, c);
                    sum ^= c;
                }
                due("of " + a + " in " + k, x.trace(a, k), sum);
            }
        }
        due("in LEVEL 0 it alone", x.trace(1L, 0), 1);
    }

    private static void placesAtFirst() {
        sentence("I", "PLACES 0 to 7 have NUMBERS (0 at first)");
        TurnField x = new TurnField();
        for (int i = 0; i <= 7; i++) {
            due("at first, " + i, x.place(i), 0L);
            due("it has 0, " + i, x.put(i, 0L), -2);
        }
        due("before the first", x.put(-1, 1L), -1);
        due("the first", x.put(0, 1L), 1);
        due("the last", x.put(7, 1L), 1);
        due("behind the last", x.put(8, 1L), -1);
    }

    private static void polynomialAtNone() {
        sentence("I", "POLYNOMIAL at x: the SUM of PLACE k times POWER k of x");
        TurnField x = places(9L, 8L, 7L, 6L, 5L, 4L, 3L, LOWEST);
        due("at 0", x.at(0L, 0), 9L);
        for (long a : SOME) {
            due("at " + a, x.at(a, 0), polynomialAt(a, 9L, 8L, 7L, 6L, 5L, 4L, 3L, LOWEST));
        }
        due("the POLYNOMIAL 0", new TurnField().at(-1L, 0), 0L);
        due("PLACE 7 alone", places(0L, 0L, 0L, 0L, 0L, 0L, 0L, 3L).at(2L, 0), mul(3L, pow(2L, 7L)));
    }

    private static void through() {
        sentence("I", "THROUGH at x: the one POLYNOMIAL below degree 8 that at 0, 1, .., 7 has what PLACES 0 to 7 have, at x");
        for (int degree = 0; degree <= 7; degree++) {
            long[] f = new long[degree + 1];
            f[degree] = -3L;
            TurnField x = new TurnField();
            for (int i = 0; i <= 7; i++) {
                x.put(i, polynomialAt(i, f));
            }
            for (long a : new long[] {0L, 7L, 8L, 255L, LOWEST, -1L}) {
                due("degree " + degree + " at " + a, x.at(a, 1), polynomialAt(a, f));
            }
        }
        TurnField any = places(1L, LOWEST, 0L, 0L, -1L, 5L, 5L, 2L);
        for (int i = 0; i <= 7; i++) {
            due("at " + i, any.at(i, 1), any.place(i));
        }
        due("through nothing but 0", new TurnField().at(8L, 1), 0L);
    }

    // ==== II. RULES

    private static void rules() {
        greatestShowsHeads();
        sentence("II", "up K: 1 to K coins");
        ruleOf(0);
        sentence("II", "exact K: just K");
        ruleOf(1);
        sentence("II", "ruler K: 1 to K coins side by side");
        ruleOf(2);
        sentence("II", "near K: one coin, or two that are K at most from one another");
        ruleOf(3);
        limits();
        worthsOfCoins();
    }

    private static void greatestShowsHeads() {
        sentence("II", "which sets of coins of a row 0, 1, .. may be turned at once, if the greatest one of the set shows heads");
        TurnField x = board("1 up 1 6 up 6 heads 0 4");
        due("the greatest one alone", x.play(1, 16), 0);
        x.undo();
        due("all others show tails", x.play(1, 31), 4);
        x.undo();
        due("a greater one shows tails", x.play(1, 48), -2);
        due("a lesser one shows tails", x.play(1, 8), -2);
        TurnField all = allHeads(1, "up1", 6, "up6");
        due("all show heads", all.play(1, 63), 0);
    }

    /** Each set of six coins by each K, along rows and along columns. */
    private static void ruleOf(int kind) {
        for (int k = 1; k <= 8; k++) {
            String rule = KINDS[kind] + k;
            for (int set = 1; set <= 63; set++) {
                int want = mayBe(set, kind, k) ? 6 - Integer.bitCount(set) : -2;
                due(rule + " columns " + set, allHeads(1, "up1", 6, rule).play(1, set), want);
                due(rule + " rows " + set, allHeads(6, rule, 1, "near8").play(set, 1), want);
            }
        }
    }

    private static void limits() {
        sentence("II", "(K 1 to 8)");
        for (String kind : KINDS) {
            for (int k = 1; k <= 8; k++) {
                TurnField x = board("1" + kind + k + " 1up1");
                due(kind + " " + k, x.count(4), k);
            }
            fault("1" + kind + "0 1up1", 1 + kind.length(), 2);
            fault("1" + kind + "9 1up1", 1 + kind.length(), 2);
            fault("1up1 1" + kind + "0", 6 + kind.length(), 2);
            fault("1up1 1" + kind + "9", 6 + kind.length(), 2);
        }
    }

    private static void worthsOfCoins() {
        sentence("II", "WORTH of coin n by a RULE: the least NUMBER that is none of the SUMS of WORTHS of all others of a set, of all sets that may be whose greatest one is n (nothing else: 0)");
        for (int kind = 0; kind < 4; kind++) {
            for (int k = 1; k <= 8; k++) {
                TurnField x = board("1" + KINDS[kind] + k + " 6" + KINDS[kind] + (9 - k));
                int[] worths = slowWorths(kind, k);
                int[] others = slowWorths(kind, 9 - k);
                for (int n = 0; n <= 11; n++) {
                    due(KINDS[kind] + k + " coin " + n, x.worth(0, n), worths[n]);
                    due(KINDS[kind] + (9 - k) + " coin " + n, x.worth(1, n), others[n]);
                }
            }
        }
        TurnField exact = board("1exact8 1exact2");
        due("no set at all: 0", exact.worth(0, 6), 0);
        due("the first set: 1", exact.worth(0, 7), 1);
        due("exact 2, coin 0", exact.worth(1, 0), 0);
        due("one coin, nothing else: 0 is a SUM", new TurnField().worth(0, 0), 1);
    }

    private static int[] slowWorths(int kind, int k) {
        int[] worths = new int[12];
        for (int n = 0; n < 12; n++) {
            boolean[] met = new boolean[8192];
            for (int set = 1 << n; set < 2 << n; set++) {
                int sum = 0;
                for (int i = 0; i < n; i++) {
                    sum ^= (set >> i & 1) != 0 ? worths[i] : 0;
                }
                met[sum] |= mayBe(set, kind, k);
            }
            while (met[worths[n]]) {
                worths[n]++;
            }
        }
        return worths;
    }

    // ==== II. BOARDS, MOVES

    private static void boardsAndMoves() {
        sizes();
        cellNumbers();
        tailsAtFirst();
        greatestCell();
        allTurned();
        worthsOfCells();
        leastExcluded();
        worthOfBoard();
        orderOfMoves();
        movesThatWin();
        boardAtFirst();
    }

    private static void sizes() {
        sentence("II", "A BOARD: 1 to 6 rows, a RULE for sets of rows; 1 to 6 columns, a RULE for sets of columns");
        for (int rows = 1; rows <= 6; rows++) {
            for (int columns = 1; columns <= 6; columns++) {
                TurnField x = board(rows + "up1 " + columns + "ruler2");
                due("rows", x.count(0), rows);
                due("columns", x.count(1), columns);
                due("the last CELL", x.turn(rows - 1, columns - 1), 1);
                due("no more rows", x.turn(rows, columns - 1), -1);
                due("no more columns", x.turn(rows - 1, columns), -1);
                due("rows with heads", x.count(10), 1 << (rows - 1));
                due("columns with heads", x.count(11), 1 << (columns - 1));
            }
        }
        fault("0up1 1up1", 0, 2);
        fault("7up1 1up1", 0, 2);
        fault("1up1 0up1", 5, 2);
        fault("1up1 7up1", 5, 2);
    }

    private static void cellNumbers() {
        sentence("II", "CELL 6 times the row, and the column");
        for (int rows = 1; rows <= 6; rows++) {
            for (int columns = 1; columns <= 6 && rows * columns <= 12; columns++) {
                // one coin at a time: the longest of all is the one of all heads
                TurnField x = board(rows + "up1 " + columns + "up1");
                due(rows + " by " + columns, x.boards(2), bits((1 << rows) - 1, (1 << columns) - 1));
            }
        }
    }

    private static void tailsAtFirst() {
        sentence("II", "each shows heads or tails (tails at first)");
        TurnField x = board("6up2 6up2");
        for (int i = 0; i < 36; i++) {
            due("cell " + i, x.cell(i / 6, i % 6, 2), 0);
        }
        due("heads", x.count(6), 0);
        due("moves", x.moves(0), 0);
    }

    private static void greatestCell() {
        sentence("II", "the CELL of the greatest row, the greatest column must show heads");
        TurnField x = board("3up3 3up3 heads 1 2 heads 2 1 heads 0 0");
        due("2 2 shows tails", x.play(6, 6), -2);
        due("2 2 shows tails", x.play(4, 4), -2);
        due("1 1 shows tails", x.play(3, 3), -2);
        due("1 2 shows heads, all others of it tails", x.play(2, 7), 4);
        x.undo();
        due("2 1 shows heads, 0 0 too", x.play(7, 3), 5);
    }

    private static void allTurned() {
        sentence("II", "all CELLS of these rows and columns are turned");
        TurnField x = board("6up6 6up6 heads 5 5");
        due("all of all", x.play(63, 63), 35);
        due("but the last", x.cell(5, 5, 2), 0);
        TurnField some = board("6up6 6up6 heads 5 4 heads 0 0");
        due("rows 0, 3, 5, columns 0, 4", some.play(41, 17), 4);
        for (int i = 0; i < 36; i++) {
            boolean turned = (41 >> i / 6 & 1) != 0 && (17 >> i % 6 & 1) != 0;
            boolean before = i == 34 || i == 0;
            due("cell " + i, some.cell(i / 6, i % 6, 2), turned != before ? 1 : 0);
        }
    }

    private static void worthsOfCells() {
        sentence("II", "WORTH of a CELL: PRODUCT of the WORTH of its row and that of its column");
        TurnField x = board("6up8 6exact2");
        for (int r = 0; r < 6; r++) {
            for (int c = 0; c < 6; c++) {
                due("cell " + r + " " + c, x.cell(r, c, 0), mul(x.worth(0, r), x.worth(1, c)));
            }
        }
        due("by a WORTH that is 0", x.cell(5, 0, 0), 0);
        TurnField greatest = board("6up8 6up8");
        due("the greatest: 32 times 32", greatest.cell(5, 5, 0), mul(32L, 32L));
    }

    private static void leastExcluded() {
        sentence("II", "LEAST EXCLUDED of a CELL: the least NUMBER that is none of the SUMS of LEAST EXCLUDED of all other CELLS, of all MOVES whose greatest CELL it is");
        String[][] sides = {
            {"6up8", "6up8"}, {"6exact1", "1exact3"}, {"6ruler8", "6near1"}, {"1near8", "6up2"}, {"6exact2", "6exact2"}, {"1up1", "1up1"},
            {"6exact8", "6up1"}, {"3up2", "4ruler3"}, {"6ruler2", "5exact3"}, {"2near2", "6ruler8"}
        };
        for (String[] side : sides) {
            TurnField x = board(side[0] + " " + side[1]);
            long[] least = slowExcluded(x);
            for (int r = 0; r < x.count(0); r++) {
                for (int c = 0; c < x.count(1); c++) {
                    due(side[0] + " " + side[1] + " cell " + r + " " + c, x.cell(r, c, 1), least[6 * r + c]);
                }
            }
        }
        due("no MOVE at all: 0", board("6exact8 6up1").cell(5, 5, 1), 0);
    }

    private static long[] slowExcluded(TurnField x) {
        int[] counts = countsOf(x);
        long[] least = new long[36];
        for (int r = 0; r < counts[0]; r++) {
            for (int c = 0; c < counts[1]; c++) {
                int cell = 6 * r + c;
                boolean[] met = new boolean[8192];
                for (long move : movesOf(counts, 1L << cell)) {
                    long sum = 0L;
                    for (int i = 0; i < cell; i++) {
                        sum ^= (move >>> i & 1L) != 0L ? least[i] : 0L;
                    }
                    met[(int) sum] = true;
                }
                while (met[(int) least[cell]]) {
                    least[cell]++;
                }
            }
        }
        return least;
    }

    private static void worthOfBoard() {
        sentence("II", "WORTH of the BOARD: the SUM of WORTHS of CELLS that show heads");
        TurnField x = board("6up8 6up8");
        due("no heads", x.total(), 0L);
        long sum = 0L;
        for (int i = 0; i < 36; i++) {
            x.turn(i / 6, i % 6);
            sum ^= mul(1L << i / 6, 1L << i % 6);
            due("up to " + i, x.total(), sum);
        }
        TurnField none = allHeads(1, "exact2", 6, "up1");
        due("heads without WORTH", none.total(), 0L);
        TurnField twice = board("1up1 6up1 heads 0 0 heads 0 5");
        due("alike ones", twice.total(), 0L);
    }

    private static void orderOfMoves() {
        sentence("II", "MOVES stand by their greatest CELL, then by rows (as bits), then by columns");
        String[] texts = {
            "3up3 3up2 heads 0 2 heads 1 0 heads 1 1 heads 2 0", "6near2 6ruler2 heads 5 5 heads 0 0 heads 4 0",
            "1up1 6up6 heads 0 5 heads 0 0", "6up6 1up1 heads 5 0 heads 0 0", "2exact2 3exact1 heads 0 2 heads 1 1", "1up1 1up1 heads 0 0"
        };
        for (String text : texts) {
            TurnField x = board(text);
            long[] moves = movesOf(countsOf(x), headsOf(x));
            due(text, x.moves(0), moves.length);
            for (int k = 0; k < moves.length; k++) {
                due(text + " the " + k + "th", bits(x.move(0, k, 1), x.move(0, k, 2)), moves[k]);
            }
            due(text + " behind the last", x.move(0, moves.length, 1), -2);
        }
    }

    private static void movesThatWin() {
        sentence("II", "A MOVE wins, if the WORTH of the BOARD is 0 behind it");
        TurnField x = board("3up2 3up2 heads 2 2 heads 1 2 heads 0 1");
        int wins = 0;
        for (int k = 0; k < x.moves(0); k++) {
            if (x.move(0, k, 3) == 0) {
                due("its rows", x.move(1, wins, 1), x.move(0, k, 1));
                due("its columns", x.move(1, wins, 2), x.move(0, k, 2));
                due("WORTH behind it", x.move(1, wins, 3), 0);
                wins++;
            }
        }
        due("how many", x.moves(1), wins);
        due("some", wins > 0 ? 1 : 0, 1);
        TurnField lost = board("1up1 2up1 heads 0 0 heads 0 1");
        due("WORTH 0 before it: none", lost.moves(1), 0);
        due("MOVES there are", lost.moves(0), 2);
    }

    private static void boardAtFirst() {
        sentence("II", "At first 3 rows and 3 columns, RULES up 2");
        TurnField x = new TurnField();
        int[] want = {3, 3, 0, 0, 2, 2};
        for (int i = 0; i < want.length; i++) {
            due("count " + i, x.count(i), want[i]);
        }
        due("the last CELL", x.turn(2, 2), 1);
        due("two rows, two columns", x.play(6, 5), 3);
        due("three rows", board("3up2 3up2 heads 2 2").play(7, 4), -2);
    }

    // ==== II. TEXTS

    private static void texts() {
        textOfMost();
        sides();
        headsToldAgain();
        words();
        numbersInTexts();
        blanks();
    }

    private static void textOfMost() {
        sentence("II", "A TEXT (at most 120 bytes)");
        noFault("1up1 1up1", 0);
        noFault("1up1 1up1" + times(" ", 111), 0);
        noFault(times(";", 111) + "1up1 1up1", 0);
        noFault("6up1 6up1" + times(" ", 103) + "heads5 5", 1);
        noFault("6up1 6up1 heads1 1" + times(" heads1 1", 11) + "  ", 1);
        noFault("6up1 6up1 heads1 1heads1 2heads1 3heads1 4heads1 5heads2 0heads2 1heads2 2heads2 3heads2 4heads2 5heads3 0", 12);
        fault("6up1 6up1" + times(" ", 104) + "heads 5", 120, 1);
        fault("6up1 6up1" + times(" ", 103) + "heads5 6", 119, 2);
        TurnField x = new TurnField();
        feedText(x, times(" ", 120));
        due("120 bytes", x.count(8), 120);
        due("no more", x.feed(0, 0, 0, 0, 0), -1);
    }

    private static void sides() {
        sentence("II", "SIDE SIDE { heads NUMBER NUMBER }: SIDE: NUMBER WORD NUMBER: how many (1 to 6), a RULE (up, exact, ruler, near), its K (rows, then columns)");
        for (int kind = 0; kind < 4; kind++) {
            for (int other = 0; other < 4; other++) {
                TurnField x = board("2" + KINDS[kind] + "1 5" + KINDS[other] + "8 heads 1 4");
                int[] want = {2, 5, kind, other, 1, 8, 1};
                for (int i = 0; i < want.length; i++) {
                    due(KINDS[kind] + " " + KINDS[other] + " count " + i, x.count(i), want[i]);
                }
            }
        }
        noFault("1up1 1up1", 0);
        fault("1up1", 4, 1);
        fault("1up1 1up1 1up1", 10, 1);
        fault("1up1 heads0 0", 5, 1);
        fault("1up1 1up1 heads0 0 1", 19, 1);
        fault("1up1 1up1 heads0 0 0", 19, 1);
        fault("1up1 1up1 heads0 0 up", 19, 1);
    }

    private static void headsToldAgain() {
        sentence("II", "heads: row, column of a CELL that shows heads (told again: still)");
        TurnField x = board("2up1 3up1 heads 1 2 heads 1 2");
        due("twice: still", x.count(6), 1);
        due("it is 1 2", x.cell(1, 2, 2), 1);
        noFault("2up1 3up1 heads1 2 heads1 2 heads1 2 heads0 0", 2);
        fault("2up1 3up1 heads 2 0", 16, 2);
        fault("2up1 3up1 heads 0 3", 18, 2);
        noFault("2up1 3up1 heads 1 0", 1);
        noFault("6up1 6up1 heads 5 5 heads 0 5 heads 5 0 heads 0 0", 4);
        fault("6up1 6up1 heads 6 0", 16, 2);
        fault("6up1 6up1 heads 0 6", 18, 2);
        fault("1up1 1up1 heads 1 0", 16, 2);
        fault("1up1 1up1 heads 0 1", 18, 2);
    }

    private static void words() {
        sentence("II", "WORDS go on as far as small letters do");
        noFault("1up1 1up1heads0 0heads0 0", 1);
        fault("1upa1 1up1", 1, 1);
        fault("1upz1 1up1", 1, 1);
        fault("1aup1 1up1", 1, 1);
        fault("1zup1 1up1", 1, 1);
        fault("1up`1 1up1", 3, 1);
        fault("1up{1 1up1", 3, 1);
        fault("1upA1 1up1", 3, 1);
        fault("1`up1 1up1", 1, 1);
        fault("1{up1 1up1", 1, 1);
        fault("1u1 1up1", 1, 1);
        fault("1exac1 1up1", 1, 1);
        fault("1exacts1 1up1", 1, 1);
        fault("1rule1 1up1", 1, 1);
        fault("1rulers1 1up1", 1, 1);
        fault("1nea1 1up1", 1, 1);
        fault("1nears1 1up1", 1, 1);
        fault("1up1 1up1 head0 0", 10, 1);
        fault("1up1 1up1 headsx0 0", 10, 1);
        fault("1up1 1up1 headsheads0 0", 10, 1);
        fault("1u p1 1up1", 1, 1);
        fault("1up1 1up1 hea ds0 0", 10, 1);
    }

    private static void numbersInTexts() {
        sentence("II", "NUMBERS as far as digits do");
        noFault("1up1 1up1", 0);
        noFault("6up8 6up8 heads5 0", 1);
        fault("10up1 1up1", 0, 2);
        fault("19up1 1up1", 0, 2);
        fault("1up10 1up1", 3, 2);
        fault("1up11up1", 3, 2);
        noFault("1up1;1up1heads0;0", 1);
        fault("1up1 1up1 heads00", 17, 1);
        noFault("01up01 01up01 heads00 00", 1);
        noFault(times("0", 111) + "1up1 1up1", 0);
        fault("1/up1 1up1", 1, 1);
        fault("1:up1 1up1", 1, 1);
        fault("1up1/ 1up1", 4, 1);
        fault("1up1: 1up1", 4, 1);
        fault("/1up1 1up1", 0, 1);
        fault(":1up1 1up1", 0, 1);
        fault("-1up1 1up1", 0, 1);
        fault("+1up1 1up1", 0, 1);
        fault("4294967297up1 1up1", 0, 2);
        fault("18446744073709551617up1 1up1", 0, 2);
        fault("1up4294967297 1up1", 3, 2);
        fault("1up1 1up1 heads4294967296 0", 15, 2);
        fault("1up1 1up1 heads0 18446744073709551616", 17, 2);
        fault(times("1", 111) + "up1 1up1", 0, 2);
    }

    private static void blanks() {
        sentence("II", "blanks (32), ; stand between as one likes");
        noFault("1 up 1 1 up 1 heads 0 0", 1);
        noFault("1;up;1;1;up;1;heads;0;0", 1);
        noFault(" ; ;1; ;up  1;;1 ;up; 1 ; heads;;; 0 ;0;", 1);
        noFault("; 1up1 1up1 ;", 0);
        for (int sign = 0; sign < 256; sign++) {
            char one = (char) sign;
            boolean blank = sign == ' ' || sign == ';';
            if (sign < '0' || sign > '9') {
                if (blank) {
                    noFault("1up1" + one + "1up1", 0);
                    noFault(one + "1up1 1up1" + one, 0);
                } else {
                    fault("1up1" + one + "1up1", 4, 1);
                    fault(one + "1up1 1up1", 0, 1);
                    fault("1up1 1up1" + one, 9, 1);
                }
            }
        }
    }

    // ==== II. FAULTS

    private static void faults() {
        firstPlace();
        cannotStand();
        textEnds();
        notAsTold();
        leastOfOnePlace();
    }

    private static void firstPlace() {
        sentence("II", "of the first place along it that is wrong (0 the first byte), 8 times the place");
        fault("x", 0, 1);
        fault("0", 0, 2);
        fault("7xx9 9xx9", 0, 2);
        fault("1xx9 9xx9", 1, 1);
        fault("1up9 9xx9", 3, 2);
        fault("1up1 9xx9", 5, 2);
        fault("1up1 1xx9", 6, 1);
        fault("1up1 1up9 x", 8, 2);
        fault("1up1 1up1 x", 10, 1);
        fault("1up1 1up1 heads1 1", 15, 2);
        fault("1up1 1up1 heads0 1", 17, 2);
        fault("1up1 1up1 heads0 0 heads1 0 x", 24, 2);
        // each byte of the tape by itself, behind as many blanks
        for (int place = 0; place < 120; place++) {
            fault(times(" ", place) + "?" + times(" ", 119 - place), place, 1);
        }
    }

    private static void cannotStand() {
        sentence("II", "1 a byte or WORD that cannot stand there");
        fault("up", 0, 1);
        fault("?", 0, 1);
        fault("1 1", 2, 1);
        fault("1 heads", 2, 1);
        fault("1 up up", 5, 1);
        fault("1 up ?", 5, 1);
        fault("1up1 up", 5, 1);
        fault("1up1 1 heads", 7, 1);
        fault("1up1 1up heads", 9, 1);
        fault("1up1 1up1 up", 10, 1);
        fault("1up1 1up1 exact", 10, 1);
        fault("1up1 1up1 heads heads", 16, 1);
        fault("1up1 1up1 heads 0 heads", 18, 1);
        fault("1up1 1up1 heads 0,0", 17, 1);
        fault("1up1 1up1 Heads 0 0", 10, 1);
        fault("1UP1 1up1", 1, 1);
    }

    private static void textEnds() {
        sentence("II", "or the text ends (the place behind its last byte)");
        String whole = "1up1 1up1 heads0 0";
        int[] good = {9, 10, 18};
        for (int n = 0; n <= whole.length(); n++) {
            boolean cut = n > 10 && n < 15 || n == 2 || n == 7;
            if (n == good[0] || n == good[1] || n == good[2]) {
                noFault(whole.substring(0, n), n == 18 ? 1 : 0);
            } else if (!cut) {
                fault(whole.substring(0, n), n, 1);
            }
        }
        fault("", 0, 1);
        fault(" ", 1, 1);
        fault(";;", 2, 1);
        fault(times(" ", 120), 120, 1);
        fault("1up1  ", 6, 1);
        fault("1up1 1up1 heads;", 16, 1);
        // a WORD that is cut off is one that cannot stand there, where it begins
        fault("1u", 1, 1);
        fault("1up1 1up1 head", 10, 1);
    }

    private static void notAsTold() {
        sentence("II", "2 a NUMBER (where it begins) that is not as told");
        fault("0", 0, 2);
        fault("7", 0, 2);
        fault("  007", 2, 2);
        fault("1up0", 3, 2);
        fault("1up  9", 5, 2);
        fault("1up1 0", 5, 2);
        fault("1up1 7", 5, 2);
        fault("1up1 1up009", 8, 2);
        fault("2up1 3up1 heads 2", 16, 2);
        fault("2up1 3up1 heads 002", 16, 2);
        fault("2up1 3up1 heads 1 3", 18, 2);
        fault("2up1 3up1 heads 1 ;;003", 20, 2);
        noFault("2up1 3up1 heads 001 002", 1);
    }

    private static void leastOfOnePlace() {
        sentence("II", "Of one place the least");
        // a NUMBER that is not as told, where no NUMBER can stand
        fault("1 9", 2, 1);
        fault("1up1 1up1 9", 10, 1);
        fault("1up1 1 0", 7, 1);
        fault("1up1 1up1 heads0 0 9", 19, 1);
    }

    // ==== II. LENGTHS

    private static void lengths() {
        lengthOfTwelve();
        whoHasNoneLoses();
        soonestAndLatest();
    }

    private static void lengthOfTwelve() {
        sentence("II", "LENGTH of a BOARD of 12 CELLS at most");
        for (int rows = 1; rows <= 6; rows++) {
            for (int columns = 1; columns <= 6; columns++) {
                int cells = rows * columns;
                TurnField x = allHeads(rows, "up1", columns, "up1");
                due(rows + " by " + columns, x.game(1), cells <= 12 ? cells : -2);
                due(rows + " by " + columns + ", who wins", x.game(0), cells <= 12 ? cells % 2 : -2);
                due(rows + " by " + columns + ", all", x.boards(1), cells <= 12 ? cells : -2);
            }
        }
    }

    private static void whoHasNoneLoses() {
        sentence("II", "by turns two play MOVES, who has none loses");
        TurnField none = board("2up1 3up1");
        due("no heads: 0 MOVES", none.game(1), 0);
        due("who is to play loses", none.game(0), 0);
        TurnField heads = allHeads(2, "exact3", 3, "up1");
        due("heads, no MOVE", heads.moves(0), 0);
        due("0 MOVES", heads.game(1), 0);
        due("who is to play loses", heads.game(0), 0);
        TurnField one = board("2up1 3up1 heads 1 2");
        due("one MOVE", one.game(1), 1);
        due("who is to play wins", one.game(0), 1);
    }

    private static void soonestAndLatest() {
        sentence("II", "who wins plays so that it is over soonest, the other one so that it is latest: how many MOVES are played");
        String[] sides = {"3up2 4up2", "4near2 3ruler3", "2exact2 6up3", "6ruler2 2exact1", "1up1 6near3", "5up4 2near1"};
        for (String side : sides) {
            int[] counts = countsOf(board(side));
            Map<Long, Integer> known = new HashMap<>();
            long heads = 0L;
            for (int i = 0; i < 100; i++) {
                heads ^= 1L << 6 * ((i * 7 + i / 5) % counts[0]) + (i * 3 + i / 4) % counts[1];
                TurnField x = board(side);
                turnAll(x, heads);
                int length = lengthOf(counts, heads, known);
                due(side + " heads " + heads, x.game(1), length);
                due(side + " who wins " + heads, x.game(0), length % 2);
            }
        }
    }

    private static void turnAll(TurnField x, long heads) {
        for (int i = 0; i < 36; i++) {
            if ((heads >>> i & 1L) != 0L) {
                x.turn(i / 6, i % 6);
            }
        }
    }

    // ==== III. GRIDS

    private static void grids() {
        gridSizes();
        stepForms();
        ranks();
        determinants();
        solutions();
        solutionsFree();
        products();
        inversesOfGrids();
    }

    private static void gridSizes() {
        sentence("III", "A GRID has 1 to 4 rows, 1 to 4 columns of NUMBERS (at first 1, 1, 0)");
        TurnField x = new TurnField();
        due("rows at first", x.shape(0), 1);
        due("columns at first", x.shape(1), 1);
        due("0 at first", x.entry(0, 0, 0), 0L);
        due("0 at first", x.enter(0, 0, 0L), -2);
        for (int rows = 0; rows <= 5; rows++) {
            for (int columns = 0; columns <= 5; columns++) {
                boolean good = rows >= 1 && rows <= 4 && columns >= 1 && columns <= 4;
                due(rows + " by " + columns, x.grid(rows, columns), good ? rows * columns : -1);
            }
        }
        due("rows", x.shape(0), 4);
        due("columns", x.shape(1), 4);
    }

    /** A number for an entry, of all levels; 0 now and then. */
    private static long numberOf(int seed) {
        long n = (seed + 1) * 0x9E3779B97F4A7C15L;
        n ^= n >>> 29;
        int level = (int) (n >>> 40 & 7L);
        return level == 7 ? 0L : level == 6 ? n : n & (1L << (1 << level)) - 1L;
    }

    /** Rows of which all behind the first so many are sums of multiples of these. */
    private static long[] rowsOfRank(int rows, int columns, int rank, int seed) {
        long[] all = new long[rows * columns];
        for (int i = 0; i < rows; i++) {
            for (int k = 0; k < columns; k++) {
                if (i < rank) {
                    all[i * columns + k] = numberOf(seed + 17 * i + k);
                }
                for (int j = 0; i >= rank && j < rank; j++) {
                    all[i * columns + k] ^= mul(numberOf(seed + 5 * i + j) | 1L, all[j * columns + k]);
                }
            }
        }
        return all;
    }

    private static void stepForms() {
        sentence("III", "STEP FORM: where the first that is not 0 of each row is 1 and alone in its column, rows without any come last, and these first ones stand farther from row to row");
        for (int shape = 0; shape < 16; shape++) {
            int rows = 1 + shape / 4;
            int columns = 1 + shape % 4;
            for (int seed = 0; seed < 25; seed++) {
                long[] all = rowsOfRank(rows, columns, seed % (rows + 1), 1000 * shape + 31 * seed);
                TurnField x = gridOf(columns, all);
                dueSame("steps of" + gridTold(columns, all), gridSeen(x, 1), gridTold(columns, slowSteps(columns, all)));
                dueSame("the GRID is as it was", gridSeen(x, 0), gridTold(columns, all));
            }
        }
        dueSame("all 0", gridSeen(gridOf(2, 0L, 0L, 0L, 0L), 1), " | 0 0 | 0 0");
        dueSame("1 1", gridSeen(gridOf(1, LOWEST), 1), " | 1");
        dueSame("a row without any first", gridSeen(gridOf(2, 0L, 0L, 0L, 7L), 1), " | 0 1 | 0 0");
        dueSame("in turn", gridSeen(gridOf(3, 0L, 0L, 5L, 0L, 6L, 0L, 7L, 0L, 0L), 1), " | 1 0 0 | 0 1 0 | 0 0 1");
        dueSame("a column of four", gridSeen(gridOf(1, 0L, 3L, 0L, 2L), 1), " | 1 | 0 | 0 | 0");
        dueSame("a row of four", gridSeen(gridOf(4, 0L, 0L, 2L, 3L), 1), " | 0 0 1 2");
    }

    private static long[] slowSteps(int columns, long[] grid) {
        long[] g = grid.clone();
        int rows = g.length / columns;
        int rank = 0;
        for (int c = 0; c < columns; c++) {
            int lead = rank;
            while (lead < rows && g[lead * columns + c] == 0L) {
                lead++;
            }
            if (lead < rows) {
                long scale = inv(g[lead * columns + c]);
                for (int k = 0; k < columns; k++) {
                    long kept = g[rank * columns + k];
                    g[rank * columns + k] = mul(scale, g[lead * columns + k]);
                    g[lead * columns + k] = lead == rank ? g[rank * columns + k] : kept;
                }
                for (int r = 0; r < rows; r++) {
                    long factor = r == rank ? 0L : g[r * columns + c];
                    for (int k = 0; k < columns; k++) {
                        g[r * columns + k] ^= mul(factor, g[rank * columns + k]);
                    }
                }
                rank++;
            }
        }
        return g;
    }

    private static int slowRank(int columns, long[] grid) {
        long[] steps = slowSteps(columns, grid);
        int rank = 0;
        for (int r = 0; r < steps.length / columns; r++) {
            long any = 0L;
            for (int k = 0; k < columns; k++) {
                any |= steps[r * columns + k];
            }
            rank += any != 0L ? 1 : 0;
        }
        return rank;
    }

    private static void ranks() {
        sentence("III", "RANK: rows of it that are not all 0");
        for (int rows = 1; rows <= 4; rows++) {
            for (int columns = 1; columns <= 4; columns++) {
                TurnField x = new TurnField();
                x.grid(rows, columns);
                due("all 0", x.shape(2), 0);
                for (int i = 0; i < rows && i < columns; i++) {
                    x.enter(rows - 1 - i, i, LOWEST + i);
                    due("with " + (i + 1), x.shape(2), i + 1);
                }
            }
        }
        due("alike rows", gridOf(2, 2L, 3L, 2L, 3L, 1L, mul(3L, inv(2L))).shape(2), 1);
    }

    private static long slowDeterminant(int n, long[] g, int row, int used) {
        long sum = row == n ? 1L : 0L;
        for (int c = 0; c < n; c++) {
            if (row < n && (used >> c & 1) == 0) {
                sum ^= mul(g[row * n + c], slowDeterminant(n, g, row + 1, used | 1 << c));
            }
        }
        return sum;
    }

    private static void determinants() {
        sentence("III", "DETERMINANT of a square one: the SUM, over all ways to take one of each row and each column, of their PRODUCTS");
        for (int n = 1; n <= 4; n++) {
            for (int seed = 0; seed < 40; seed++) {
                long[] all = rowsOfRank(n, n, seed % 4 == 3 ? n - 1 : n, 777 * n + 41 * seed);
                due("of" + gridTold(n, all), gridOf(n, all).determinant(), slowDeterminant(n, all, 0, 0));
            }
        }
        due("1 1, 0", new TurnField().determinant(), 0L);
        due("1 1", gridOf(1, LOWEST).determinant(), LOWEST);
        due("rows changed about", gridOf(2, 0L, 5L, 6L, 0L).determinant(), mul(5L, 6L));
    }

    private static void solutions() {
        sentence("III", "SOLUTION: each row tells that of its columns but the last one the SUM of PRODUCTS with unknowns is what stands in the last one");
        for (int shape = 0; shape < 16; shape++) {
            int rows = 1 + shape / 4;
            int columns = 1 + shape % 4;
            for (int seed = 0; seed < 25; seed++) {
                long[] all = rowsOfRank(rows, columns, seed % (rows + 1), 5000 * shape + 61 * seed);
                checkSolution(rows, columns, all);
            }
        }
        due("one unknown", gridOf(2, 2L, 4L).solution(0), mul(4L, inv(2L)));
        due("0 times it is not 1", gridOf(2, 0L, 1L).shape(3), -2);
        due("0 times it is 0", gridOf(2, 0L, 0L).shape(3), 1);
    }

    /** Solutions are there, if the last column brings no row of its own; they fit; the free ones are 0. */
    private static void checkSolution(int rows, int columns, long[] all) {
        TurnField x = gridOf(columns, all);
        String name = gridTold(columns, all);
        long[] left = new long[rows * Math.max(1, columns - 1)];
        for (int i = 0; i < rows; i++) {
            for (int k = 0; k + 1 < columns; k++) {
                left[i * (columns - 1) + k] = all[i * columns + k];
            }
        }
        int rank = columns == 1 ? 0 : slowRank(columns - 1, left);
        boolean there = rank == slowRank(columns, all);
        due("free ones of" + name, x.shape(3), there ? columns - 1 - rank : -2);
        for (int i = 0; i < rows && there; i++) {
            long sum = 0L;
            for (int k = 0; k + 1 < columns; k++) {
                sum ^= mul(all[i * columns + k], x.solution(k));
            }
            due("row " + i + " of" + name, sum, all[i * columns + columns - 1]);
        }
        for (int k = 0; k + 1 < columns; k++) {
            if (!there) {
                due("unknown " + k + " of" + name, x.solution(k), 0L);
            }
        }
    }

    private static void solutionsFree() {
        sentence("III", "of all that fit the one whose unknowns that no first one of the STEP FORM stands at are 0");
        TurnField x = gridOf(4, 0L, 1L, 5L, 9L);
        due("before the first one", x.solution(0), 0L);
        due("at the first one", x.solution(1), 9L);
        due("behind it", x.solution(2), 0L);
        TurnField all = gridOf(4, 0L, 0L, 0L, 0L, 0L, 0L, 0L, 0L);
        for (int k = 0; k < 3; k++) {
            due("all are free, " + k, all.solution(k), 0L);
        }
        due("how many", all.shape(3), 3);
        TurnField apart = gridOf(4, 1L, 7L, 0L, 3L, 0L, 0L, 1L, LOWEST);
        due("first", apart.solution(0), 3L);
        due("between", apart.solution(1), 0L);
        due("last", apart.solution(2), LOWEST);
    }

    private static void products() {
        sentence("III", "PRODUCT of two GRIDS: for row i, column k the SUM of PRODUCTS of row i here and column k there");
        for (int shape = 0; shape < 64; shape++) {
            int rows = 1 + shape / 16;
            int middle = 1 + shape / 4 % 4;
            int columns = 1 + shape % 4;
            long[] here = rowsOfRank(rows, middle, rows, 9000 + 13 * shape);
            long[] there = rowsOfRank(middle, columns, middle, 7000 + 19 * shape);
            long[] want = new long[rows * columns];
            for (int i = 0; i < rows; i++) {
                for (int k = 0; k < columns; k++) {
                    for (int j = 0; j < middle; j++) {
                        want[i * columns + k] ^= mul(here[i * middle + j], there[j * columns + k]);
                    }
                }
            }
            TurnField x = gridOf(columns, there);
            x.keep(shape % 2);
            setGrid(x, middle, here);
            due(rows + " " + middle + " " + columns, x.multiply(shape % 2), rows * columns);
            due("rows", x.shape(0), rows);
            due("columns", x.shape(1), columns);
            dueSame(rows + " " + middle + " " + columns, gridSeen(x, 0), gridTold(columns, want));
        }
    }

    private static void inversesOfGrids() {
        sentence("III", "INVERSE of a square one: that by which the PRODUCT has 1 where row and column are alike, else 0");
        for (int n = 1; n <= 4; n++) {
            long[] unit = new long[n * n];
            for (int i = 0; i < n; i++) {
                unit[i * n + i] = 1L;
            }
            for (int seed = 0; seed < 30; seed++) {
                long[] all = rowsOfRank(n, n, seed % 5 == 4 ? n - 1 : n, 3000 * n + 29 * seed);
                boolean has = slowRank(n, all) == n;
                TurnField x = gridOf(n, all);
                x.keep(0);
                due("of" + gridTold(n, all), x.invert(), has ? 1 : -2);
                if (has) {
                    x.multiply(0);
                    dueSame("PRODUCT of" + gridTold(n, all), gridSeen(x, 0), gridTold(n, unit));
                } else {
                    dueSame("still", gridSeen(x, 0), gridTold(n, all));
                }
            }
        }
    }

    // ==== III. ROOTS, COMMON, MENDED, FULL

    private static void placesTogether() {
        rootsInLevels();
        rootsRising();
        commonOnes();
        commonPlaces();
        commonOfNone();
        mendedOnes();
        fullOnes();
    }

    private static void rootsInLevels() {
        sentence("III", "ROOTS of the POLYNOMIAL in a LEVEL (0 to 4): NUMBERS of that LEVEL at most at which it is 0");
        for (int level = 0; level <= 4; level++) {
            long last = (1L << (1 << level)) - 1L;
            TurnField x = places(withRoots(-5L, 0L, last, last + 1L));
            due("0 and the last one of LEVEL " + level, x.roots(level, -1), 2);
            due("0", x.roots(level, 0), 0);
            due("the last one", x.roots(level, 1), last);
            due("no more", x.roots(level, 2), -2);
        }
        TurnField high = places(withRoots(1L, 1L << 16, LOWEST, -1L, 1L << 32));
        due("all are above LEVEL 4", high.roots(4, -1), 0);
        due("none", high.roots(4, 0), -2);
        due("LEVEL 5", high.roots(5, -1), -1);
        due("before LEVEL 0", high.roots(-1, -1), -1);
    }

    private static void rootsRising() {
        sentence("III", "NUMBERS of that LEVEL at most at which it is 0, rising");
        long[][] sets = {
            {65535L, 65534L, 5L, 4L, 3L, 2L, 1L}, {0L, 1L, 2L, 3L, 4L, 5L, 6L}, {40000L, 0L, 256L, 255L, 16L, 15L, 4L}, {7L}, {0L}, {65535L, 0L}, {9L, 8L, 300L}
        };
        for (long[] roots : sets) {
            TurnField x = places(withRoots(LOWEST + 3L, roots));
            long[] rising = roots.clone();
            java.util.Arrays.sort(rising);
            for (int level = 0; level <= 4; level++) {
                int n = 0;
                for (long root : rising) {
                    if (root >>> (1 << level) == 0L) {
                        due("root " + n + " in " + level, x.roots(level, n), root);
                        n++;
                    }
                }
                due("how many in " + level, x.roots(level, -1), n);
                due("no more in " + level, x.roots(level, n), -2);
            }
        }
        TurnField again = places(withRoots(2L, 9L, 9L, 9L, 6L, 6L, 0L, 0L));
        due("the same one again and again: once", again.roots(2, -1), 3);
        due("0", again.roots(2, 0), 0);
        due("6", again.roots(2, 1), 6);
        due("9", again.roots(2, 2), 9);
    }

    private static void dueCommon(String what, TurnField x, long... want) {
        for (int k = 0; k < 4; k++) {
            due(what + ", coefficient " + k, x.common(k), want[k]);
        }
    }

    private static void commonOnes() {
        sentence("III", "the one of greatest degree that both are PRODUCTS of, its highest coefficient 1");
        dueCommon("alike, degree 3", places(5L, 6L, 7L, 8L, 5L, 6L, 7L, 8L), mul(5L, inv(8L)), mul(6L, inv(8L)), mul(7L, inv(8L)), 1L);
        dueCommon("alike, degree 0", places(LOWEST, 0L, 0L, 0L, LOWEST), 1L, 0L, 0L, 0L);
        dueCommon("nothing common", places(1L, 1L, 0L, 0L, 2L, 1L), 1L, 0L, 0L, 0L);
        dueCommon("x is common", places(0L, 1L, 0L, 0L, 0L, 3L, 1L), 0L, 1L, 0L, 0L);
        long[] first = withRoots(9L, 5L, 6L, 7L);
        long[] second = withRoots(-7L, 6L, 7L, LOWEST);
        long[] both = withRoots(1L, 6L, 7L);
        TurnField x = places(first[0], first[1], first[2], first[3], second[0], second[1], second[2], second[3]);
        dueCommon("two of three", x, both[0], both[1], both[2], 0L);
        long[] twice = withRoots(3L, 6L, 6L, 6L);
        long[] once = withRoots(4L, 6L, 6L, 5L);
        long[] square = withRoots(1L, 6L, 6L);
        TurnField y = places(once[0], once[1], once[2], once[3], twice[0], twice[1], twice[2], twice[3]);
        dueCommon("twice the same", y, square[0], square[1], square[2], 0L);
    }

    private static void commonPlaces() {
        sentence("III", "of the POLYNOMIALS by PLACES 0 to 3 and by PLACES 4 to 7 (PLACE 4 times POWER 0)");
        dueCommon("PLACES 0 to 3 alone", places(2L, 4L, 6L, 2L), 1L, mul(4L, inv(2L)), mul(6L, inv(2L)), 1L);
        dueCommon("PLACES 4 to 7 alone", places(0L, 0L, 0L, 0L, 2L, 4L, 6L, 2L), 1L, mul(4L, inv(2L)), mul(6L, inv(2L)), 1L);
        dueCommon("PLACE 3 alone", places(0L, 0L, 0L, 9L), 0L, 0L, 0L, 1L);
        dueCommon("PLACE 4 alone", places(0L, 0L, 0L, 0L, 9L), 1L, 0L, 0L, 0L);
        dueCommon("PLACE 7 alone", places(0L, 0L, 0L, 0L, 0L, 0L, 0L, 9L), 0L, 0L, 0L, 1L);
        dueCommon("PLACE 0 alone", places(9L), 1L, 0L, 0L, 0L);
    }

    private static void commonOfNone() {
        sentence("III", "(0, if both are 0)");
        dueCommon("both are 0", new TurnField(), 0L, 0L, 0L, 0L);
        TurnField x = places(0L, 0L, 2L);
        dueCommon("one is 0", x, 0L, 0L, 1L, 0L);
        x.undo();
        dueCommon("0 again", x, 0L, 0L, 0L, 0L);
    }

    private static void mendedOnes() {
        sentence("III", "MENDED: the one POLYNOMIAL below degree 4 that at 0, 1, .., 7 has what 6 or more of PLACES 0 to 7 have");
        long[] f = {-9L, LOWEST, 5L, 1L << 40};
        for (int set = 0; set < 256; set++) {
            TurnField x = new TurnField();
            for (int i = 0; i < 8; i++) {
                x.put(i, polynomialAt(i, f) ^ (set >> i & 1) * (0x123456789L + 77L * i * i * i * i));
            }
            int right = 8 - Integer.bitCount(set);
            if (right >= 6) {
                due("right " + right, x.agrees(0), right);
                due("which not", x.agrees(1), set);
                for (int k = 0; k < 4; k++) {
                    due("coefficient " + k, x.mended(k), f[k]);
                }
                due("at -1", x.mendedAt(-1L), polynomialAt(-1L, f));
            } else if (right == 5) {
                due("5 are too few", x.agrees(0), -2);
            }
        }
        TurnField four = new TurnField();
        for (int i = 0; i < 8; i++) {
            four.put(i, pow(i, 4L));
        }
        due("degree 4", four.agrees(0), -2);
        due("below degree 1", places(6L, 6L, 6L, 6L, 6L, 6L, 6L, 6L).mended(0), 6L);
        due("the POLYNOMIAL 0", new TurnField().agrees(0), 8);
    }

    private static void fullOnes() {
        sentence("III", "FULL in a LEVEL: a NUMBER of that LEVEL at most whose POWERS are all of these but 0");
        TurnField x = new TurnField();
        for (int level = 0; level <= 3; level++) {
            int all = 1 << (1 << level);
            int n = 0;
            int least = -1;
            for (int a = all - 1; a >= 0; a--) {
                boolean[] met = new boolean[all];
                int unlike = 0;
                long power = 1L;
                for (int i = 0; i < all; i++) {
                    unlike += met[(int) power] ? 0 : 1;
                    met[(int) power] = true;
                    power = mul(power, a);
                }
                if (unlike == all - 1 && !met[0]) {
                    n++;
                    least = a;
                }
            }
            due("least in " + level, x.full(level, 0), least);
            due("how many in " + level, x.full(level, 1), n);
        }
        for (int level = 4; level <= 6; level++) {
            due("ORDER of the least in " + level, x.order(x.full(level, 0)), level == 6 ? -1L : (1L << (1 << level)) - 1L);
        }
        for (int level = 4; level <= 6; level++) {
            long least = x.full(level, 0);
            for (long a = 1L << (1 << (level - 1)); a < least; a++) {
                due("is less and FULL in " + level + ": " + a, isFull(a, level) ? 1L : 0L, 0L);
            }
            due("is FULL in " + level, isFull(least, level) ? 1L : 0L, 1L);
        }
    }

    private static boolean isFull(long a, int level) {
        long all = level == 6 ? -1L : (1L << (1 << level)) - 1L;
        for (long prime : new long[] {3L, 5L, 17L, 257L, 641L, 65537L, 6700417L}) {
            boolean divides = Long.remainderUnsigned(all, prime) == 0L;
            if (divides && pow(a, Long.divideUnsigned(all, prime)) == 1L) {
                return false;
            }
        }
        return true;
    }

    // ==== III. ACTS, SHELVES

    private static void acts() {
        whatIsAnAct();
        whatIsNoAct();
        lastTen();
        shelves();
    }

    private static void whatIsAnAct() {
        sentence("III", "ACTS: a BOARD told, a CELL turned, a MOVE played, answered, a PLACE told, reckoned, a GRID made, an entry told, multiplied, inverted");
        act("told", Bench::busy, x -> told(x, "6up1 6up1 heads 5 5"), 1);
        act("the same told", TurnField::new, x -> told(x, "3up2 3up2"), 0);
        act("turned", Bench::busy, x -> x.turn(0, 1), 4);
        act("played", Bench::busy, x -> x.play(2, 4), 2);
        act("answered, wins", Bench::worn, x -> x.answer(), 1);
        act("answered, wins", () -> board("1up1 1up1 heads 0 0"), x -> x.answer(), 1);
        act("answered, loses", Bench::busy, x -> x.answer(), 0);
        act("put", Bench::busy, x -> x.put(3, 1L), 1);
        act("reckoned", Bench::busy, x -> x.reckon(3, 0, 7, 1), 1);
        act("reckoned, as it was", Bench::busy, x -> x.reckon(0, 0, 1, 0), 1);
        act("made", Bench::busy, x -> x.grid(4, 4), 16);
        act("made again", TurnField::new, x -> x.grid(1, 1), 1);
        act("entered", Bench::busy, x -> x.enter(1, 0, 1L), 1);
        act("multiplied", Bench::busy, x -> x.multiply(0), 4);
        act("inverted", Bench::busy, x -> x.invert(), 1);
        act("inverted, as it was", () -> gridOf(1, 1L), x -> x.invert(), 1);
        act("back", Bench::busy, x -> x.back(0), 2);
        act("back, as it was", Bench::worn, x -> x.back(0), 1);
        act("told", Bench::worn, x -> told(x, "1up1 1up1"), 0);
        act("played", Bench::worn, x -> x.play(3, 3), 3);
        act("put", Bench::worn, x -> x.put(0, -1L), 1);
        act("made", Bench::worn, x -> x.grid(2, 3), 6);
    }

    private static void whatIsNoAct() {
        sentence("III", "ACTS: a BOARD told, ..: no others");
        TurnField x = busy();
        due("acts", x.count(7), 7);
        x.keep(1);
        x.feed(1, 2, 3, 4, 5);
        x.end(3);
        x.total();
        x.moves(1);
        x.entry(0, 0, 1);
        x.roots(4, -1);
        x.mended(0);
        x.boards(0);
        due("still", x.count(7), 7);
        x.undo();
        due("an UNDONE one is none more", x.count(7), 6);
        due("the tape is not UNDONE", x.count(8), 3);
        due("shelves are not UNDONE", x.count(9), 3);
    }

    private static void lastTen() {
        sentence("III", "The last 10 can be UNDONE, the last first");
        for (int acts = 0; acts <= 34; acts++) {
            TurnField x = new TurnField();
            for (int i = 1; i <= acts; i++) {
                x.put(0, i);
            }
            int most = Math.min(10, acts);
            due("of " + acts, x.count(7), most);
            for (int i = 1; i <= most; i++) {
                due("undone " + i + " of " + acts, x.undo(), most - i);
                due("is as before", x.place(0), acts - i);
            }
            due("no more of " + acts, x.undo(), -1);
            due("still", x.place(0), acts - most);
        }
        undoneAndDone();
    }

    private static void undoneAndDone() {
        TurnField x = new TurnField();
        for (int i = 1; i <= 13; i++) {
            x.put(0, i);
        }
        for (int i = 0; i < 4; i++) {
            x.undo();
        }
        for (int i = 0; i < 3; i++) {
            x.put(1, 20L + i);
        }
        due("6 and 3", x.count(7), 9);
        for (int i = 8; i >= 0; i--) {
            due("undone", x.undo(), i);
        }
        due("the one before the tenth", x.place(0), 3L);
        due("no more", x.undo(), -1);
    }

    private static void shelves() {
        sentence("III", "SHELVES 0, 1: BOARDS, PLACES, GRIDS KEPT");
        TurnField x = busy();
        due("before the first", x.keep(-1), -1);
        due("behind the last", x.keep(2), -1);
        String first = kept(x);
        due("the last", x.keep(1), 3);
        told(x, "4exact3 4ruler4 heads 3 3");
        x.put(5, 99L);
        x.grid(4, 1);
        x.enter(3, 0, LOWEST);
        String second = kept(x);
        due("the first", x.keep(0), 1);
        due("both", x.count(9), 3);
        due("back to the last", x.back(1), 3);
        dueSame("it", kept(x), first);
        due("back to the first", x.back(0), 1);
        dueSame("it", kept(x), second);
        x.undo();
        dueSame("undone", kept(x), first);
    }

    // ==== III. NONE

    private static void noneFirst() {
        sentence("III", "Where NONE and another answer fit a call, it is NONE (but in log())");
        refused("sets not there that may not be", x -> x.play(64, 63), -1);
        refused("a set of none beside one that may not be", x -> x.play(3, 0), -1);
        refused("a PLACE without, by 0", x -> x.reckon(8, 0, 3, 2), -1);
        refused("x without, by 0", x -> x.reckon(0, -1, 3, 2), -1);
        refused("no such how, of places without", x -> x.reckon(8, 9, 9, 5), -1);
        refused("no shelf, nothing KEPT", x -> x.back(2), -1);
        refused("an entry without, so as all are", x -> x.enter(4, 0, 0L), -1);
        refused("nothing KEPT, columns unlike rows", () -> gridOf(3, 1L, 2L, 3L), x -> x.multiply(0), -1);
        refused("no shelf, columns unlike rows", () -> gridOf(3, 1L, 2L, 3L), x -> x.multiply(-1), -1);
        refused("no such shape, no SOLUTIONS", () -> gridOf(1, 1L), x -> x.shape(4), -1);
        refused("no such LEVEL, all are ROOTS", TurnField::new, x -> x.roots(5, 0), -1);
        refused("no such k, all are ROOTS", TurnField::new, x -> x.roots(0, -2), -1);
        refused("no such LEVEL, not so many", () -> places(1L), x -> x.roots(-1, 5), -1);
        refused("no such what, none MENDED", () -> places(1L, 2L, 4L, 9L, 77L, 3L, 0L, 5L), x -> x.agrees(2), -1);
        refused("no such what, too many CELLS", () -> board("4up1 4up1"), x -> x.boards(3), -1);
        refused("no such what, too many CELLS", () -> board("4up1 4up1"), x -> x.game(2), -1);
        refused("no such what, not so many MOVES", x -> x.move(0, 99, 0), -1);
        refused("no such which, not so many MOVES", x -> x.move(2, 99, 1), -1);
        refused("no k, no MOVES", TurnField::new, x -> x.move(0, -1, 1), -1);
        refused("log: -2 is asked first", x -> x.log(65536L, 0L), -2);
        refused("log: -2 is asked first", x -> x.log(0L, 65536L), -2);
        refused("log: NONE", x -> x.log(65535L, 0L), -1);
    }
}
