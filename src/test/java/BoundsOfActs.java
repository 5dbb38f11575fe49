/** Promises 1 to 16: each sentence that names a boundary case has a test of its own. */
public final class BoundsOfActs extends Bench {

    public static void main(String[] args) {
        newObject();
        feed();
        end();
        tell();
        turn();
        play();
        answer();
        put();
        reckon();
        undo();
        keep();
        back();
        grid();
        enter();
        multiply();
        invert();
        finish("promises 1 to 16");
    }

    // ---- 1

    private static void newObject() {
        sentence("Promise 1", "3 rows, 3 columns, all tails");
        dueSame("all", seen(new TurnField()),
            "counts 0 0 0 0 0 0 rules 3 3 0 0 2 2 heads 0 places 0 0 0 0 0 0 0 0 grid | 0");
        due("nothing to undo", new TurnField().undo(), -1);
        due("nothing kept", new TurnField().back(0), -2);
        due("nothing kept", new TurnField().back(1), -2);
        due("an empty tape", new TurnField().end(1), -1);
        due("an empty tape", new TurnField().tell(), -3);
    }

    // ---- 2

    private static void feed() {
        feedAnswersHowMany();
        feedHighestFirst();
        feedBehindTheTape();
        feedMoreThanMost();
    }

    private static void feedAnswersHowMany() {
        sentence("Promise 2", "Twenty bytes come behind the TAPE: how many it has");
        TurnField x = new TurnField();
        for (int n = 20; n <= 120; n += 20) {
            due("to " + n, x.feed(0, -1, Integer.MIN_VALUE, Integer.MAX_VALUE, n), n);
            due("count", x.count(8), n);
        }
        due("no act", x.count(7), 0);
        TurnField y = new TurnField();
        for (int n = 0; n <= 100; n++) {
            y.end(0);
            while (y.count(8) < n) {
                y.feed(0, 0, 0, 0, 0);
            }
            y.end(n);
            due("behind " + n, y.feed(0, 0, 0, 0, 0), n + 20);
            y = n % 20 == 19 ? new TurnField() : y;
        }
    }

    /** A byte that cannot stand there, at each of twenty places: the fault tells where it is. */
    private static void feedHighestFirst() {
        sentence("Promise 2", "of each number the highest first");
        for (int place = 0; place < 20; place++) {
            for (int sign : new int[] {0, 1, 63, 127, 128, 160, 255}) {
                int[] fours = {0x20202020, 0x20202020, 0x20202020, 0x20202020, 0x20202020};
                int shift = 24 - 8 * (place % 4);
                fours[place / 4] = fours[place / 4] & ~(255 << shift) | sign << shift;
                TurnField x = new TurnField();
                x.feed(fours[0], fours[1], fours[2], fours[3], fours[4]);
                due("byte " + sign + " at " + place, x.tell(), -2 - (8 * place + 1));
            }
        }
        TurnField x = new TurnField();
        x.feed(0x32757033, 0x3B356578, 0x61637434, 0x68656164, 0x73312034);
        due("2up3;5exact4heads1 4", x.tell(), 1);
        int[] want = {2, 5, 0, 1, 3, 4, 1};
        for (int i = 0; i < want.length; i++) {
            due("count " + i, x.count(i), want[i]);
        }
    }

    private static void feedBehindTheTape() {
        sentence("Promise 2", "come behind the TAPE");
        for (int before = 0; before <= 100; before++) {
            TurnField x = new TurnField();
            feedText(x, times(" ", before));
            x.feed(0x3F202020, 0x20202020, 0x20202020, 0x20202020, 0x20202020);
            due("the first one behind " + before, x.tell(), -2 - (8 * before + 1));
            TurnField y = new TurnField();
            feedText(y, times(" ", before));
            y.feed(0x20202020, 0x20202020, 0x20202020, 0x20202020, 0x2020203F);
            due("the last one behind " + before, y.tell(), -2 - (8 * (before + 19) + 1));
        }
    }

    private static TurnField taped(int n) {
        TurnField x = busy();
        x.end(0);
        feedText(x, times(" ", n));
        return x;
    }

    private static void feedMoreThanMost() {
        sentence("Promise 2", "NONE, and none comes, if it would have more than 120");
        due("just 120", taped(100).feed(0, 0, 0, 0, 0), 120);
        for (int n = 101; n <= 120; n++) {
            int bytes = n;
            refused("behind " + n, () -> taped(bytes), x -> x.feed(0, 0, 0, 0, 0), -1);
        }
        TurnField x = taped(101);
        x.feed(0x3F3F3F3F, 0x3F3F3F3F, 0x3F3F3F3F, 0x3F3F3F3F, 0x3F3F3F3F);
        due("101 blanks, and none came", x.tell(), -2 - (8 * 101 + 1));
        TurnField y = new TurnField();
        feedText(y, "1up1 1up1" + times(" ", 103) + "heads0 0");
        y.feed(0x3F3F3F3F, 0x3F3F3F3F, 0x3F3F3F3F, 0x3F3F3F3F, 0x3F3F3F3F);
        due("120 are still what they were", y.tell(), 1);
        due("room again", y.feed(0, 0, 0, 0, 0), 20);
    }

    // ---- 3

    private static void end() {
        sentence("Promise 3", "The TAPE has its first n bytes alone: n");
        for (int n = 0; n <= 120; n++) {
            TurnField x = new TurnField();
            feedText(x, times(" ", 120));
            due("of 120", x.end(n), n);
            due("count", x.count(8), n);
            due("the text ends", x.tell(), -2 - (8 * n + 1));
        }
        TurnField x = new TurnField();
        feedText(x, "1up1 1up1 ?up1 1up1?");
        x.end(10);
        due("the first ones", x.tell(), 0);
        TurnField y = new TurnField();
        feedText(y, "1up1????????????????");
        y.end(4);
        feedText(y, " 1up1");
        due("what comes behind them", y.tell(), 0);
        TurnField z = new TurnField();
        due("0 of none", z.end(0), 0);
        z.feed(0, 0, 0, 0, 0);
        due("0 of 20", z.end(0), 0);
        due("no act", z.count(7), 0);
        endRefused();
    }

    private static void endRefused() {
        sentence("Promise 3", "NONE, and nothing happens, if it has not so many, or n is below 0");
        refused("21 of 20", Bench::busy, x -> x.end(21), -1);
        refused("1 of none", Bench::worn, x -> x.end(1), -1);
        refused("-1", x -> x.end(-1), -1);
        refused("121 of 120", () -> taped(120), x -> x.end(121), -1);
        refused("120 of 119", () -> taped(119), x -> x.end(120), -1);
        for (int far : FAR) {
            refused("" + far, x -> x.end(far), -1);
        }
        TurnField x = new TurnField();
        feedText(x, "1up1 1up1?");
        x.end(9);
        due("what was cut is not there any more", x.end(10), -1);
        due("a text", x.tell(), 0);
    }

    // ---- 4

    private static void tell() {
        sentence("Promise 4", "The TAPE, which is empty then, tells a BOARD (PLACES stay): how many CELLS show heads");
        TurnField x = busy();
        x.end(0);
        due("told", told(x, "6near8 1exact1 heads 5 0 heads 0 0"), 2);
        due("the tape is empty", x.count(8), 0);
        due("20 bytes again", x.feed(0, 0, 0, 0, 0), 20);
        due("PLACE 0 stays", x.place(0), 4L);
        due("PLACE 7 stays", x.place(7), -6L);
        due("the GRID stays", x.entry(1, 1, 0), 3L);
        due("shelves stay", x.count(9), 1);
        int[] want = {6, 1, 3, 1, 8, 1, 2, 8};
        for (int i = 0; i < want.length; i++) {
            due("count " + i, x.count(i), want[i]);
        }
        due("no heads", told(new TurnField(), "6up1 6up1"), 0);
        TurnField all = new TurnField();
        due("as many as a text of 120 bytes tells", told(all,
            "1up1 6up1 heads0 0heads0 1heads0 2heads0 3heads0 4heads0 5"), 6);
        due("the BOARD before is gone", told(all, "6up1 6up1"), 0);
        tellFaults();
        tellEmptiesTape();
    }

    private static TurnField withTape(TurnField x, String text) {
        x.end(0);
        feedText(x, text);
        return x;
    }

    private static void tellFaults() {
        sentence("Promise 4", "-2 - its FAULT, and but for the TAPE nothing happens");
        String[] texts = {"", " ", "x", "7", "2up2 3up9", "2up2 3up2 heads 0 0 heads 2 0", "2up2 3up2 heads 0 0 heads 0 0 x", "6exact3 6ruler4 heads", "1up1 1"};
        int[] faults = {1, 8 + 1, 1, 2, 8 * 8 + 2, 8 * 26 + 2, 8 * 30 + 1, 8 * 21 + 1, 8 * 6 + 1};
        for (int i = 0; i < texts.length; i++) {
            int want = -2 - faults[i];
            TurnField touched = withTape(busy(), texts[i]);
            due("'" + texts[i] + "'", touched.tell(), want);
            due("'" + texts[i] + "', the tape", touched.count(8), 0);
            alike("'" + texts[i] + "'", touched, withTape(busy(), ""));
            TurnField worn = withTape(worn(), texts[i]);
            due("'" + texts[i] + "'", worn.tell(), want);
            alike("'" + texts[i] + "'", worn, withTape(worn(), ""));
        }
        // the greatest FAULT of all
        fault(times(" ", 120), 120, 1);
    }

    private static void tellEmptiesTape() {
        sentence("Promise 4", "The TAPE, which is empty then");
        TurnField x = withTape(new TurnField(), "1up1 1up1");
        due("told", x.tell(), 0);
        due("told again: the text ends at 0", x.tell(), -3);
        TurnField y = withTape(new TurnField(), "?");
        due("a fault", y.tell(), -3);
        due("empty too", y.end(1), -1);
    }

    // ---- 5

    private static void turn() {
        sentence("Promise 5", "A CELL is turned: how many show heads");
        TurnField x = board("6up1 6up1");
        for (int i = 0; i < 36; i++) {
            due("up to " + i, x.turn(i / 6, i % 6), i + 1);
        }
        for (int i = 0; i < 36; i++) {
            due("down from " + i, x.turn(i / 6, i % 6), 35 - i);
            due("tails", x.cell(i / 6, i % 6, 2), 0);
        }
        turnRefused();
    }

    private static void turnRefused() {
        sentence("Promise 5", "NONE, and nothing happens, without it");
        for (int side = -1; side <= 6; side += 7) {
            int one = side;
            refused("row " + side, x -> x.turn(one, 0), -1);
            refused("column " + side, x -> x.turn(0, one), -1);
            refused("both " + side, x -> x.turn(one, one), -1);
        }
        refused("row 2 of 2", Bench::busy, x -> x.turn(2, 0), -1);
        refused("column 3 of 3", Bench::busy, x -> x.turn(0, 3), -1);
        refused("row 3 of 3", Bench::worn, x -> x.turn(3, 0), -1);
        refused("column 3 of 3", Bench::worn, x -> x.turn(0, 3), -1);
        for (int far : FAR) {
            refused("row " + far, x -> x.turn(far, 0), -1);
            refused("column " + far, x -> x.turn(1, far), -1);
        }
        TurnField x = new TurnField();
        told(x, "6up1 6up1 heads 5 5");
        told(x, "1up1 1up1");
        due("of the BOARD before", x.turn(5, 5), -1);
        due("the only one", x.turn(0, 0), 1);
    }

    // ---- 6

    private static void play() {
        sentence("Promise 6", "A MOVE (rows, columns as bits) is played: how many show heads");
        TurnField x = allHeads(6, "up6", 6, "up6");
        due("all", x.play(63, 63), 0);
        x.undo();
        due("the last one", x.play(32, 32), 35);
        due("the first one", x.play(1, 1), 34);
        due("a row", x.play(2, 63), 28);
        due("a column", board("6up6 6up6 heads 5 0").play(63, 1), 5);
        playMayNot();
        playNone();
    }

    private static void playMayNot() {
        sentence("Promise 6", "-2, and nothing happens: it may not be");
        refused("its CELL shows tails", x -> x.play(1, 2), -2);
        refused("a greater CELL shows tails", x -> x.play(3, 5), -2);
        refused("columns 0, 2 are not near 1", Bench::busy, x -> x.play(2, 5), -2);
        refused("three columns are not near", Bench::busy, x -> x.play(2, 7), -2);
        refused("three rows are not up 2", () -> board("3up2 1up1 heads 2 0"), x -> x.play(7, 1), -2);
        refused("three columns are not up 2", () -> board("1up1 3up2 heads 0 2"), x -> x.play(1, 7), -2);
        refused("one is not exact 2", () -> board("2exact2 1up1 heads 1 0"), x -> x.play(2, 1), -2);
        refused("three are not exact 2", () -> board("3exact2 1up1 heads 2 0"), x -> x.play(7, 1), -2);
        refused("a gap is no ruler", () -> board("3ruler3 1up1 heads 2 0"), x -> x.play(5, 1), -2);
        refused("four are no ruler 3", () -> board("4ruler3 1up1 heads 3 0"), x -> x.play(15, 1), -2);
        refused("no MOVES at all", () -> board("2exact3 1up1 heads 1 0"), x -> x.play(3, 1), -2);
        refused("no heads", TurnField::new, x -> x.play(7, 7), -2);
    }

    private static void playNone() {
        sentence("Promise 6", "NONE, and nothing happens, for sets of none, or of rows, columns that are not there");
        refused("no rows", x -> x.play(0, 1), -1);
        refused("no columns", x -> x.play(1, 0), -1);
        refused("none at all", x -> x.play(0, 0), -1);
        refused("row 2 of 2", Bench::busy, x -> x.play(4, 1), -1);
        refused("rows 1, 2 of 2", Bench::busy, x -> x.play(6, 1), -1);
        refused("column 3 of 3", Bench::busy, x -> x.play(1, 8), -1);
        refused("columns 0, 3 of 3", Bench::busy, x -> x.play(1, 9), -1);
        refused("row 3 of 3", Bench::worn, x -> x.play(8, 1), -1);
        refused("column 6 of 6", () -> allHeads(1, "up1", 6, "up6"), x -> x.play(1, 64), -1);
        refused("row 6 of 6", () -> allHeads(6, "up6", 1, "up1"), x -> x.play(64, 1), -1);
        refused("below 0", x -> x.play(-1, 1), -1);
        refused("below 0", x -> x.play(1, -1), -1);
        for (int far : FAR) {
            refused("rows " + far, x -> x.play(far, 1), -1);
            refused("columns " + far, x -> x.play(1, far), -1);
            refused("the highest bit beside good ones", x -> x.play(1 | Integer.MIN_VALUE, 1), -1);
        }
        due("the greatest that are there", allHeads(6, "up6", 6, "up6").play(63, 63), 0);
    }

    // ---- 7

    private static void answer() {
        sentence("Promise 7", "The first MOVE that wins is played, without one the first MOVE: 1, 0");
        String[] texts = {
            "3up2 3up2 heads 2 2", "3up2 3up2 heads 1 2 heads 2 0 heads 0 1", "1up1 6up6 heads 0 5 heads 0 3", "6ruler3 2near1 heads 5 1 heads 0 0",
            "1up1 2up1 heads 0 0 heads 0 1", "3up2 3up2 heads 1 1 heads 0 2", "2exact2 3up3 heads 1 2 heads 0 0", "6up6 6up6 heads 5 5 heads 3 4"
        };
        for (String text : texts) {
            TurnField x = board(text);
            TurnField twin = board(text);
            int wins = x.moves(1) > 0 ? 1 : 0;
            twin.play(x.move(wins, 0, 1), x.move(wins, 0, 2));
            due(text, x.answer(), wins);
            dueSame(text, kept(x), kept(twin));
            due(text + ": one act", x.count(7), 2);
        }
        due("the only CELL", board("1up1 1up1 heads 0 0").answer(), 1);
        due("two alike ones", board("1up1 2up1 heads 0 0 heads 0 1").answer(), 0);
        answerWithout();
    }

    private static void answerWithout() {
        sentence("Promise 7", "-2, and nothing happens: there is none");
        refused("no heads", TurnField::new, x -> x.answer(), -2);
        refused("no sets", () -> allHeads(2, "exact3", 2, "up1"), x -> x.answer(), -2);
        refused("no sets", () -> allHeads(2, "up1", 2, "exact3"), x -> x.answer(), -2);
        refused("heads that no MOVE turns", () -> board("3exact2 3exact3 heads 0 2 heads 2 1"), x -> x.answer(), -2);
    }

    // ---- 8

    private static void put() {
        sentence("Promise 8", "A PLACE has that NUMBER: 1");
        for (int place = 0; place <= 7; place++) {
            for (long number : new long[] {1L, -1L, LOWEST, HIGHEST}) {
                TurnField x = new TurnField();
                due("place " + place, x.put(place, number), 1);
                for (int i = 0; i <= 7; i++) {
                    due("place " + i, x.place(i), i == place ? number : 0L);
                }
            }
        }
        sentence("Promise 8", "-2, and nothing happens: it has");
        refused("4", Bench::busy, x -> x.put(0, 4L), -2);
        refused("-6", Bench::busy, x -> x.put(7, -6L), -2);
        refused("0", TurnField::new, x -> x.put(3, 0L), -2);
        refused("0", TurnField::new, x -> x.put(0, 0L), -2);
        sentence("Promise 8", "NONE, and nothing happens, without it");
        refused("-1", x -> x.put(-1, 9L), -1);
        refused("8", x -> x.put(8, 9L), -1);
        refused("8, 0", x -> x.put(8, 0L), -1);
        for (int far : FAR) {
            refused("" + far, x -> x.put(far, 9L), -1);
        }
    }

    // ---- 9

    private static void reckon() {
        reckonAll();
        reckonPowers();
        sentence("Promise 9", "(y does not matter for 3)");
        for (int y : new int[] {-1, 8, 9, Integer.MIN_VALUE, Integer.MAX_VALUE}) {
            TurnField x = places(24L);
            due("y " + y, x.reckon(1, 0, y, 3), 1);
            due("it", x.place(1), 16L);
        }
        sentence("Promise 9", "-2, and nothing happens: y has 0 (2)");
        refused("4 by 0", Bench::busy, x -> x.reckon(0, 0, 3, 2), -2);
        refused("0 by 0", Bench::busy, x -> x.reckon(0, 3, 3, 2), -2);
        refused("0 by 0, into 0", TurnField::new, x -> x.reckon(7, 7, 7, 2), -2);
        for (int how = 0; how <= 4; how++) {
            due("y has 0, how " + how, places(4L).reckon(0, 0, 1, how), how == 2 ? -2 : 1);
        }
        sentence("Promise 9", "NONE, and nothing happens, without these");
        for (int how = 0; how <= 4; how++) {
            reckonWithout(how);
        }
        for (int how : new int[] {-1, 5, Integer.MIN_VALUE, Integer.MAX_VALUE}) {
            refused("how " + how, x -> x.reckon(0, 0, 0, how), -1);
        }
    }

    private static void reckonWithout(int how) {
        int[] withouts = {-1, 8, Integer.MIN_VALUE, Integer.MAX_VALUE};
        for (int without : withouts) {
            refused("place " + without, x -> x.reckon(without, 0, 0, how), -1);
            refused("x " + without, x -> x.reckon(0, without, 0, how), -1);
            if (how != 3) {
                refused("y " + without, x -> x.reckon(0, 0, without, how), -1);
            }
        }
    }

    private static void reckonAll() {
        sentence("Promise 9", "how 0: the SUM, 1: the PRODUCT, 2: x times the INVERSE of y, 3: the ROOT of x");
        long[] some = {0L, 1L, 6L, 65535L, LOWEST, -1L};
        for (long a : some) {
            for (long b : some) {
                long[] want = {a ^ b, mul(a, b), mul(a, inv(b)), pow(a, LOWEST)};
                for (int how = 0; how <= 3; how++) {
                    TurnField x = places(a, 0L, 0L, 0L, 0L, 0L, 0L, b);
                    boolean cannot = how == 2 && b == 0L;
                    due(a + " " + b + " how " + how, x.reckon(3, 0, 7, how), cannot ? -2 : 1);
                    due(a + " " + b + " how " + how + ", it", x.place(3), cannot ? 0L : want[how]);
                    due("x stays", x.place(0), a);
                    due("y stays", x.place(7), b);
                }
            }
        }
        TurnField same = places(6L);
        due("all the same PLACE", same.reckon(0, 0, 0, 1), 1);
        due("it", same.place(0), mul(6L, 6L));
        due("by itself", same.reckon(0, 0, 0, 2), 1);
        due("it", same.place(0), 1L);
        due("and itself", same.reckon(0, 0, 0, 0), 1);
        due("it", same.place(0), 0L);
    }

    private static void reckonPowers() {
        sentence("Promise 9", "4: POWER (y, without sign) of x");
        long[] numbers = {0L, 1L, 2L, 6L, LOWEST, -1L};
        for (long a : numbers) {
            for (long n : new long[] {0L, 1L, 2L, 255L, HIGHEST, LOWEST, -1L, -2L}) {
                TurnField x = places(a, n);
                due(a + " POWER " + n, x.reckon(2, 0, 1, 4), 1);
                due(a + " POWER " + n + ", it", x.place(2), pow(a, n));
            }
        }
        TurnField x = places(0L, -1L);
        x.reckon(2, 0, 1, 4);
        due("of 0, 2 to the 64 less 1 times", x.place(2), 0L);
        x.reckon(2, 0, 3, 4);
        due("POWER 0 of 0", x.place(2), 1L);
    }

    // ---- 10

    private static void undo() {
        sentence("Promise 10", "The last ACT is UNDONE: how many more can be");
        TurnField x = busy();
        for (int left = 6; left >= 0; left--) {
            due("left", x.undo(), left);
            due("count", x.count(7), left);
        }
        dueSame("as at first, but for tape and shelves", kept(x), kept(new TurnField()));
        due("the tape", x.count(8), 20);
        due("the shelves", x.count(9), 1);
        TurnField ten = worn();
        due("of ten", ten.undo(), 9);
        sentence("Promise 10", "NONE, and nothing happens, if none can");
        refused("a new object", TurnField::new, y -> y.undo(), -1);
        refused("all undone", () -> allUndone(busy()), y -> y.undo(), -1);
        refused("ten undone", () -> allUndone(worn()), y -> y.undo(), -1);
        TurnField again = allUndone(worn());
        again.undo();
        due("one act", again.turn(0, 0), 1);
        due("undone", again.undo(), 0);
        due("none", again.undo(), -1);
    }

    private static TurnField allUndone(TurnField x) {
        for (int i = 0; i < 10; i++) {
            x.undo();
        }
        return x;
    }

    // ---- 11

    private static void keep() {
        sentence("Promise 11", "All is KEPT on a SHELF: how many CELLS show heads");
        for (int shelf = 0; shelf <= 1; shelf++) {
            TurnField x = new TurnField();
            due("none", x.keep(shelf), 0);
            due("the shelf", x.count(9), 1 << shelf);
            TurnField y = busy();
            due("three", y.keep(shelf), 3);
            String all = kept(y);
            told(y, "1up1 1up1 heads 0 0");
            y.put(0, 77L);
            y.grid(1, 3);
            y.back(shelf);
            dueSame("all", kept(y), all);
            y.turn(0, 0);
            y.put(1, 5L);
            y.enter(0, 1, 9L);
            due("what changes then is not KEPT", y.back(shelf), 3);
            dueSame("all", kept(y), all);
            due("KEPT anew", told(y, "2up1 2up1 heads 0 0") + y.keep(shelf), 2);
            y.turn(1, 1);
            due("the new one", y.back(shelf), 1);
        }
        TurnField wide = allHeads(6, "up1", 6, "up1");
        due("all", wide.keep(0), 36);
        sentence("Promise 11", "NONE, and nothing happens, without that SHELF");
        refused("-1", x -> x.keep(-1), -1);
        refused("2", x -> x.keep(2), -1);
        for (int far : FAR) {
            refused("" + far, x -> x.keep(far), -1);
        }
    }

    // ---- 12

    private static void back() {
        sentence("Promise 12", "All is as it was KEPT (an ACT, too): how many show heads");
        TurnField x = busy();
        x.keep(1);
        String all = kept(x);
        told(x, "4near2 5exact1 heads 3 4");
        x.put(7, 1L);
        x.grid(3, 4);
        x.enter(2, 3, 5L);
        String then = kept(x);
        due("acts", x.count(7), 10);
        due("back", x.back(1), 3);
        dueSame("as KEPT", kept(x), all);
        due("ten still", x.count(7), 10);
        due("undone", x.undo(), 9);
        dueSame("as before", kept(x), then);
        due("the other one", x.back(0), 2);
        due("still on the shelf", x.back(0), 2);
        x.feed(0, 0, 0, 0, 0);
        x.back(1);
        due("the tape stays", x.count(8), 20);
        sentence("Promise 12", "-2, and nothing happens: nothing is");
        refused("nothing on 1", Bench::busy, y -> y.back(1), -2);
        refused("nothing on 0", TurnField::new, y -> y.back(0), -2);
        refused("nothing on 1", TurnField::new, y -> y.back(1), -2);
        sentence("Promise 12", "NONE, and nothing happens, without that SHELF");
        refused("-1", y -> y.back(-1), -1);
        refused("2", y -> y.back(2), -1);
        for (int far : FAR) {
            refused("" + far, y -> y.back(far), -1);
        }
    }

    // ---- 13

    private static void grid() {
        sentence("Promise 13", "A GRID is made, all 0: how many NUMBERS");
        for (int rows = 1; rows <= 4; rows++) {
            for (int columns = 1; columns <= 4; columns++) {
                TurnField x = gridOf(4, 1L, 2L, 3L, 4L, 5L, 6L, 7L, 8L, 9L, 10L, 11L, 12L, 13L, 14L, 15L, 16L);
                due(rows + " by " + columns, x.grid(rows, columns), rows * columns);
                dueSame(rows + " by " + columns, gridSeen(x, 0), gridTold(columns, new long[rows * columns]));
                due("no more rows", x.enter(rows, 0, 1L), -1);
                due("no more columns", x.enter(0, columns, 1L), -1);
                x.grid(4, 4);
                dueSame("nothing comes again", gridSeen(x, 0), gridTold(4, new long[16]));
            }
        }
        sentence("Promise 13", "NONE, and nothing happens, if rows, columns are not 1 to 4");
        for (int size : new int[] {0, 5, -1, Integer.MIN_VALUE, Integer.MAX_VALUE}) {
            refused("rows " + size, x -> x.grid(size, 2), -1);
            refused("columns " + size, x -> x.grid(2, size), -1);
            refused("both " + size, x -> x.grid(size, size), -1);
        }
        refused("65536 by 65536", x -> x.grid(65536, 65536), -1);
    }

    // ---- 14

    private static void enter() {
        sentence("Promise 14", "An entry of the GRID is told: 1");
        for (int i = 0; i < 16; i++) {
            TurnField x = new TurnField();
            x.grid(4, 4);
            long[] want = new long[16];
            want[i] = LOWEST + i;
            due("entry " + i, x.enter(i / 4, i % 4, LOWEST + i), 1);
            dueSame("entry " + i, gridSeen(x, 0), gridTold(4, want));
            due("0 again", x.enter(i / 4, i % 4, 0L), 1);
        }
        sentence("Promise 14", "-2, and nothing happens: it is so");
        refused("2", Bench::busy, x -> x.enter(0, 0, 2L), -2);
        refused("0", Bench::busy, x -> x.enter(0, 1, 0L), -2);
        refused("0", TurnField::new, x -> x.enter(0, 0, 0L), -2);
        sentence("Promise 14", "NONE, and nothing happens, without it");
        refused("row 2 of 2", Bench::busy, x -> x.enter(2, 0, 1L), -1);
        refused("column 2 of 2", Bench::busy, x -> x.enter(0, 2, 1L), -1);
        refused("row 1 of 1", Bench::worn, x -> x.enter(1, 0, 1L), -1);
        refused("column 1 of 1", Bench::worn, x -> x.enter(0, 1, 1L), -1);
        refused("row 4", x -> x.enter(4, 0, 1L), -1);
        refused("column 4", x -> x.enter(0, 4, 1L), -1);
        refused("row -1", x -> x.enter(-1, 0, 1L), -1);
        refused("column -1", x -> x.enter(0, -1, 1L), -1);
        refused("row -1, column 4", x -> x.enter(-1, 4, 1L), -1);
        refused("row 1, column -1", x -> x.enter(1, -1, 0L), -1);
        for (int far : FAR) {
            refused("row " + far, x -> x.enter(far, 0, 1L), -1);
            refused("column " + far, x -> x.enter(0, far, 1L), -1);
        }
    }

    // ---- 15

    private static TurnField gridAndKept(int columns, long[] here, int otherColumns, long[] there) {
        TurnField x = gridOf(otherColumns, there);
        x.keep(1);
        setGrid(x, columns, here);
        return x;
    }

    private static void multiply() {
        sentence("Promise 15", "The GRID becomes the PRODUCT of it and the one KEPT on a SHELF: how many NUMBERS");
        TurnField x = gridAndKept(1, new long[] {2L, 4L, 0L, LOWEST}, 4, new long[] {3L, 0L, -1L, 16L});
        due("a column by a row", x.multiply(1), 16);
        dueSame("it", gridSeen(x, 0), gridTold(4,
            mul(2L, 3L), 0L, mul(2L, -1L), 32L, mul(4L, 3L), 0L, mul(4L, -1L), 64L, 0L, 0L, 0L, 0L,
            mul(LOWEST, 3L), 0L, mul(LOWEST, -1L), mul(LOWEST, 16L)));
        TurnField y = gridAndKept(4, new long[] {3L, 0L, -1L, 16L}, 1, new long[] {2L, 4L, 0L, LOWEST});
        due("a row by a column", y.multiply(1), 1);
        due("it", y.entry(0, 0, 0), mul(2L, 3L) ^ mul(LOWEST, 16L));
        due("no more rows", y.enter(1, 0, 1L), -1);
        due("rows", y.shape(0), 1);
        due("by itself", gridAndKept(1, new long[] {4L}, 1, new long[] {4L}).multiply(1), 1);
        due("an act", y.count(7) > 0 ? 1 : 0, 1);
        sentence("Promise 15", "-2, and nothing happens: its columns are not as many as rows there");
        refused("2 columns, 1 row", () -> gridAndKept(2, new long[] {1L, 2L}, 2, new long[] {1L, 2L}), z -> z.multiply(1), -2);
        refused("1 column, 2 rows", () -> gridAndKept(1, new long[] {1L, 2L}, 1, new long[] {1L, 2L}), z -> z.multiply(1), -2);
        refused("4 columns, 3 rows", () -> gridAndKept(4, new long[] {1L, 2L, 3L, 4L}, 1, new long[] {1L, 2L, 3L}), z -> z.multiply(1), -2);
        refused("as many columns, unlike rows", () -> gridAndKept(3, new long[] {1L, 2L, 3L}, 3, new long[] {1L, 2L, 3L, 4L, 5L, 6L}), z -> z.multiply(1), -2);
        sentence("Promise 15", "NONE, and nothing happens, without that SHELF, or if nothing is KEPT");
        refused("-1", z -> z.multiply(-1), -1);
        refused("2", z -> z.multiply(2), -1);
        refused("nothing on 1", Bench::busy, z -> z.multiply(1), -1);
        refused("nothing on 0", TurnField::new, z -> z.multiply(0), -1);
        refused("nothing on 0, something on 1", () -> gridAndKept(1, new long[] {1L}, 1, new long[] {1L}), z -> z.multiply(0), -1);
        for (int far : FAR) {
            refused("" + far, z -> z.multiply(far), -1);
        }
    }

    // ---- 16

    private static void invert() {
        sentence("Promise 16", "The GRID becomes its INVERSE: 1");
        TurnField x = gridOf(1, LOWEST);
        due("1 by 1", x.invert(), 1);
        due("it", x.entry(0, 0, 0), inv(LOWEST));
        TurnField turned = gridOf(4, 0L, 0L, 0L, 2L, 0L, 0L, 4L, 0L, 0L, 16L, 0L, 0L, 256L, 0L, 0L, 0L);
        due("4 by 4, rows turned about", turned.invert(), 1);
        dueSame("it", gridSeen(turned, 0), gridTold(4,
            0L, 0L, 0L, inv(256L), 0L, 0L, inv(16L), 0L, 0L, inv(4L), 0L, 0L, inv(2L), 0L, 0L, 0L));
        due("again", turned.invert(), 1);
        due("as it was", turned.entry(3, 0, 0), 256L);
        sentence("Promise 16", "-2, and nothing happens: it is not square, or has none");
        refused("1 by 2", () -> gridOf(2, 1L, 2L), y -> y.invert(), -2);
        refused("2 by 1", () -> gridOf(1, 1L, 2L), y -> y.invert(), -2);
        refused("3 by 4", () -> gridOf(4, 1L, 0L, 0L, 0L, 0L, 1L, 0L, 0L, 0L, 0L, 1L, 0L), y -> y.invert(), -2);
        refused("4 by 3", () -> gridOf(3, 1L, 0L, 0L, 0L, 1L, 0L, 0L, 0L, 1L, 0L, 0L, 0L), y -> y.invert(), -2);
        refused("0", TurnField::new, y -> y.invert(), -2);
        refused("a row of 0", () -> gridOf(2, 1L, 2L, 0L, 0L), y -> y.invert(), -2);
        refused("a column of 0", () -> gridOf(2, 0L, 2L, 0L, 3L), y -> y.invert(), -2);
        refused("alike rows", () -> gridOf(2, 1L, 2L, 1L, 2L), y -> y.invert(), -2);
        refused("3 by 3, the SUM of rows", () -> gridOf(3, 1L, 2L, 4L, 8L, 16L, 3L, 9L, 18L, 7L), y -> y.invert(), -2);
    }
}
