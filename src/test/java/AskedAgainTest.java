import java.util.function.Function;

/**
 * An object that was used before answers as a new one: what was told, asked before does not
 * matter to what is told, asked now. Each pair of some states, one behind the other.
 */
public final class AskedAgainTest extends Bench {
    private static final String BASE = "2up2 3up2";
    private static final String HEADS = " heads 0 0";

    public static void main(String[] args) {
        boardsBehindBoards();
        gridsBehindGrids();
        placesBehindPlaces();
        tapesBehindTapes();
        numbersBehindNumbers();
        finish("asked again");
    }

    /** A new object in each of the states, and one that has gone through another state, asked all. */
    private static void pairs(String[] names, Function<Integer, Function<TurnField, String>> states) {
        String[] alone = new String[names.length];
        for (int i = 0; i < names.length; i++) {
            alone[i] = states.apply(i).apply(new TurnField());
            dueSame(names[i] + ", in another object", states.apply(i).apply(new TurnField()), alone[i]);
        }
        for (int i = 0; i < names.length; i++) {
            for (int k = 0; k < names.length; k++) {
                TurnField x = new TurnField();
                states.apply(i).apply(x);
                dueSame(names[k] + " behind " + names[i], states.apply(k).apply(x), alone[k]);
            }
        }
    }

    // ---- boards

    /** The base, and what is unlike it in one thing alone. */
    private static String[] someBoards() {
        String[] all = new String[96];
        int n = 0;
        all[n++] = BASE;
        for (int i = 1; i <= 6; i++) {
            all[n++] = i + "up2 3up2";
            all[n++] = "2up2 " + i + "up2";
        }
        for (int k = 1; k <= 8; k++) {
            all[n++] = "2up" + k + " 3up2";
            all[n++] = "2up2 3up" + k;
            all[n++] = "2up8 3up" + k;
            all[n++] = "2up" + k + " 3up8";
        }
        for (String kind : KINDS) {
            for (String other : KINDS) {
                all[n++] = "2" + kind + "2 3" + other + "2";
                all[n++] = "2" + kind + "8 3" + other + "8";
            }
        }
        all[n++] = "3near1 4ruler1";
        all[n++] = "4near1 3ruler1";
        all[n++] = "6exact1 6exact1";
        return java.util.Arrays.copyOf(all, n);
    }

    private static void boardsBehindBoards() {
        sentence("Promise 4", "The TAPE tells a BOARD: what it answers is what a new one answers");
        String[] texts = someBoards();
        pairs(texts, i -> x -> askBoard(x, texts[i]));
    }

    private static String askBoard(TurnField x, String text) {
        StringBuilder all = new StringBuilder();
        all.append(told(x, text + HEADS));
        all.append(' ').append(x.turn(x.count(0) - 1, x.count(1) - 1)).append(" boards");
        for (int what = 0; what < 3; what++) {
            all.append(' ').append(x.boards(what));
        }
        all.append(" game ").append(x.game(1)).append(' ').append(x.game(0)).append(" coins");
        for (int n : new int[] {0, 1, 2, 3, 7, 11}) {
            all.append(' ').append(x.worth(0, n)).append(' ').append(x.worth(1, n));
            all.append(' ').append(x.sets(0, n)).append(' ').append(x.sets(1, n));
        }
        all.append(" cells");
        for (int i = 0; i < 36; i += 7) {
            all.append(' ').append(x.cell(i / 6, i % 6, 0)).append(' ').append(x.cell(i / 6, i % 6, 1));
        }
        all.append(" moves ").append(x.total()).append(' ').append(x.moves(0)).append(' ').append(x.moves(1));
        for (int k = 0; k < 4; k++) {
            for (int what = 1; what <= 3; what++) {
                all.append(' ').append(x.move(0, k, what)).append(' ').append(x.move(1, k, what));
            }
        }
        all.append(" play ").append(x.play(1, 1)).append(' ').append(x.answer()).append(kept(x));
        return all.toString();
    }

    // ---- grids

    private static final long[] ENTRIES = {2L, 0L, 4L, LOWEST, 1L, 7L, 0L, 16L, 5L, 5L, 9L, -1L, 3L, 1L, 0L, 6L};

    private static void gridsBehindGrids() {
        sentence("Promise 13", "A GRID is made, all 0: what it answers is what a new one answers");
        String[] names = new String[48];
        for (int i = 0; i < names.length; i++) {
            names[i] = "grid " + i;
        }
        pairs(names, i -> x -> askGrid(x, 1 + i / 4 % 4, 1 + i % 4, i / 16));
    }

    /** Filled 0: not at all, 1: by many, 2: each row alike. */
    private static String askGrid(TurnField x, int rows, int columns, int filled) {
        x.grid(rows, columns);
        for (int i = 0; i < rows * columns && filled > 0; i++) {
            x.enter(i / columns, i % columns, ENTRIES[filled == 1 ? i : i % columns]);
        }
        String first = gridAnswers(x);
        dueSame("asked twice", gridAnswers(x), first);
        String second = x.invert() + " " + gridSeen(x, 0) + gridSeen(x, 1) + x.determinant() + " " + x.determinant();
        return first + " inverse " + second;
    }

    private static String gridAnswers(TurnField x) {
        StringBuilder all = new StringBuilder(gridSeen(x, 0)).append(" steps").append(gridSeen(x, 1));
        all.append(" determinant ").append(x.determinant()).append(" shape");
        for (int what = 0; what <= 3; what++) {
            all.append(' ').append(x.shape(what));
        }
        all.append(" solution");
        for (int k = 0; k <= 3; k++) {
            all.append(' ').append(x.solution(k));
        }
        return all.append(" again ").append(x.determinant()).toString();
    }

    // ---- places

    private static long[][] somePlaces() {
        return new long[][] {
            new long[8], {5L, 0L, 0L, 0L, 0L, 0L, 0L, 0L}, {0L, 0L, 0L, 0L, 0L, 0L, 0L, 9L}, {1L, 1L, 1L, 1L, 1L, 1L, 1L, 1L},
            withRoots(7L, 4L, 5L), withRoots(9L, 65535L, 300L, 20L, 6L, 3L, 1L, 0L), withRoots(1L, 2L, 2L, 2L), withRoots(LOWEST, 1L << 16, -1L),
            {-1L, -2L, -3L, -4L, -5L, -6L, -7L, -8L}, {2L, 3L, 4L, 5L, 2L, 3L, 4L, 5L}, {6L, 6L, 0L, 6L, 6L, 6L, 6L, 6L}, withRoots(3L, 7L),
            withRoots(1L, 1L, 2L, 3L, 4L, 5L, 6L, 7L), {4L, 4L, 4L, 9L, 4L, 4L, 8L, 4L}, {4L, 1L, 4L, 9L, 4L, 4L, 8L, 4L}
        };
    }

    private static void placesBehindPlaces() {
        sentence("Promise 12", "All is as it was KEPT: what PLACES answer is what those of a new one answer");
        long[][] all = somePlaces();
        String[] alone = new String[all.length];
        for (int i = 0; i < all.length; i++) {
            alone[i] = placesAnswers(places(all[i]));
        }
        for (int i = 0; i < all.length; i++) {
            for (int k = 0; k < all.length; k++) {
                TurnField x = places(all[i]);
                x.keep(0);
                for (int j = 0; j < 8; j++) {
                    x.put(j, all[k][j]);
                }
                x.keep(1);
                placesAnswers(x);
                x.back(0);
                dueSame("places " + i + " behind " + k, placesAnswers(x), alone[i]);
                x.back(1);
                dueSame("places " + k + " behind " + i, placesAnswers(x), alone[k]);
            }
        }
    }

    private static String placesAnswers(TurnField x) {
        StringBuilder all = new StringBuilder("roots");
        for (int level = 4; level >= 0; level--) {
            all.append(' ').append(x.roots(level, -1));
            for (int k = 0; k < 8; k++) {
                all.append(' ').append(x.roots(level, k));
            }
        }
        all.append(" common");
        for (int k = 0; k < 4; k++) {
            all.append(' ').append(x.common(k));
        }
        all.append(" at ").append(x.at(99L, 0)).append(' ').append(x.at(99L, 1)).append(" mended");
        for (int k = 0; k < 4; k++) {
            all.append(' ').append(x.mended(k));
        }
        all.append(' ').append(x.mendedAt(-9L)).append(' ').append(x.agrees(0)).append(' ').append(x.agrees(1));
        return all.append(' ').append(x.at(-1L, 1)).append(' ').append(x.mended(0)).append(' ').append(x.roots(1, -1)).toString();
    }

    // ---- tapes

    private static void tapesBehindTapes() {
        sentence("Promise 3", "The TAPE has its first n bytes alone: what stood behind them is not read");
        String[] wholes = {
            "1upp", "1up11up1", "1up1 1up1headsheads", "1up1 1up1 heads0 00", "1up1 1up1 heads00 00", "11up1 1up1", "1up1 1up1;;;;", "1exactt1", "6up1 6up1 heads55 55"
        };
        for (String whole : wholes) {
            for (int n = 0; n <= whole.length(); n++) {
                TurnField x = new TurnField();
                feedText(x, whole);
                x.end(n);
                due(whole + " cut to " + n, x.tell(), told(new TurnField(), whole.substring(0, n)));
            }
            TurnField behind = new TurnField();
            told(behind, times("x", 100) + times("1", 20));
            TurnField other = new TurnField();
            told(other, times("1", 100) + times("x", 20));
            int want = told(new TurnField(), whole);
            due(whole + " behind digits", told(behind, whole), want);
            due(whole + " behind letters", told(other, whole), want);
        }
        sentence("II", "A TEXT (at most 120 bytes): nothing is read behind the last byte of a full TAPE");
        fault("1up1 1up1" + times(" ", 106) + "heads", 120, 1);
        fault("1up1 1up1" + times(" ", 105) + "headsx", 114, 1);
        fault(times(" ", 119) + "1", 120, 1);
        fault(times(" ", 119) + "7", 119, 2);
        fault(times("0", 119) + "1", 120, 1);
        fault("1" + times("u", 119), 1, 1);
        noFault("1up1 1up" + times("0", 111) + "1", 0);
    }

    // ---- numbers

    private static void numbersBehindNumbers() {
        sentence("Promise 29", "What is answered of NUMBERS depends on these alone");
        long[] some = {0L, 1L, 2L, 5L, 255L, 65535L, 65536L, 1L << 40, LOWEST, -1L};
        for (long a : some) {
            for (long b : some) {
                TurnField x = new TurnField();
                numberAnswers(x, a);
                dueSame(b + " behind " + a, numberAnswers(x, b), numberAnswers(new TurnField(), b));
            }
        }
    }

    private static String numberAnswers(TurnField x, long a) {
        StringBuilder all = new StringBuilder();
        all.append(x.least(a)).append(' ').append(x.order(a)).append(' ').append(x.inverse(a)).append(' ').append(x.root(a));
        all.append(' ').append(x.half(a)).append(' ').append(x.solve(a, 5L, 1)).append(' ').append(x.log(a, 5L));
        return all.append(' ').append(x.power(a, -3L)).append(' ').append(x.level(a, 1)).append(' ').append(x.trace(a, 6)).toString();
    }
}
