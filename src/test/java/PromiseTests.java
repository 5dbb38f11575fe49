/** Each promise of the document by hand: ordinary inputs, the edges that it names, wrong inputs. */
public final class PromiseTests {
    private static final int FAR = Integer.MAX_VALUE;
    private static final int LOW = Integer.MIN_VALUE;
    private static int wrong = 0;
    private static int promise = 0;

    public static void main(String[] args) {
        constants();
        newObject();
        feedAndEnd();
        tell();
        tellFaults();
        turn();
        play();
        answer();
        put();
        reckon();
        undo();
        keepAndBack();
        grid();
        enter();
        multiply();
        invert();
        stepForm();
        determinant();
        shapeAndSolution();
        roots();
        common();
        mended();
        full();
        boards();
        game();
        products();
        inverses();
        rootsOfNumbers();
        powers();
        orders();
        levels();
        leastPolynomials();
        traces();
        halves();
        solutions();
        logarithms();
        placesAndAt();
        worths();
        cells();
        leastExcludedOfAllRules();
        totals();
        moves();
        sets();
        counts();
        System.out.println(wrong == 0 ? "all promises hold" : wrong + " answers are not as promised");
        if (wrong != 0) {
            System.exit(1);
        }
    }

    private static void due(String what, long got, long want) {
        if (got != want) {
            wrong++;
            System.out.println("promise " + promise + ", " + what + ": " + got + ", due is " + want);
        }
    }

    private static int feedText(TurnField x, String text) {
        int before = x.count(8);
        for (int i = 0; i < text.length(); i += 20) {
            int[] words = new int[5];
            for (int j = 0; j < 20; j++) {
                int sign = i + j < text.length() ? text.charAt(i + j) & 255 : 0;
                words[j / 4] = words[j / 4] << 8 | sign;
            }
            x.feed(words[0], words[1], words[2], words[3], words[4]);
        }
        return x.end(before + text.length());
    }

    private static int told(TurnField x, String text) {
        x.end(0);
        feedText(x, text);
        return x.tell();
    }

    private static TurnField board(String text) {
        TurnField x = new TurnField();
        int heads = told(x, text);
        if (heads < 0) {
            due("board " + text, heads, 0);
        }
        return x;
    }

    private static TurnField places(long... numbers) {
        TurnField x = new TurnField();
        for (int i = 0; i < numbers.length; i++) {
            x.put(i, numbers[i]);
        }
        return x;
    }

    private static TurnField gridOf(int columns, long... numbers) {
        TurnField x = new TurnField();
        setGrid(x, columns, numbers);
        return x;
    }

    private static void setGrid(TurnField x, int columns, long... numbers) {
        x.grid(numbers.length / columns, columns);
        for (int i = 0; i < numbers.length; i++) {
            x.enter(i / columns, i % columns, numbers[i]);
        }
    }

    private static void dueGrid(String what, TurnField x, int kind, int columns, long... numbers) {
        for (int i = 0; i < numbers.length; i++) {
            due(what + " " + i / columns + " " + i % columns, x.entry(i / columns, i % columns, kind), numbers[i]);
        }
    }

    private static void constants() {
        due("NONE", TurnField.NONE, -1);
    }

    private static void newObject() {
        promise = 1;
        TurnField x = new TurnField();
        int[] counts = {3, 3, 0, 0, 2, 2, 0, 0, 0, 0, 0, 0};
        for (int i = 0; i < counts.length; i++) {
            due("count " + i, x.count(i), counts[i]);
        }
        for (int i = 0; i < 8; i++) {
            due("place " + i, x.place(i), 0);
        }
        due("grid rows", x.shape(0), 1);
        due("grid columns", x.shape(1), 1);
        due("entry", x.entry(0, 0, 0), 0);
        due("total", x.total(), 0);
    }

    private static void feedAndEnd() {
        promise = 2;
        TurnField x = new TurnField();
        due("first", x.feed(0x33207570, 0x20323220, 0x65786163, 0x7420313B, 0x3B3B3B3B), 20);
        promise = 3;
        due("end above", x.end(21), -1);
        due("end below", x.end(-1), -1);
        due("end far", x.end(FAR), -1);
        due("end low", x.end(LOW), -1);
        due("still", x.count(8), 20);
        due("end all", x.end(20), 20);
        due("end", x.end(16), 16);
        due("count", x.count(8), 16);
        promise = 2;
        due("no act", x.count(7), 0);
        // "3 up 22 exact 1;": the highest byte first, so 22 is not as told
        due("tell 22", x.tell(), -2 - (8 * 5 + 2));
        x.feed(-1, -1, -1, -1, -1);
        due("tell -1", x.tell(), -3);
        for (int i = 1; i <= 6; i++) {
            due("feed", x.feed(i, 0, 0, 0, 0), 20 * i);
        }
        due("feed too much", x.feed(1, 2, 3, 4, 5), -1);
        due("still 120", x.count(8), 120);
        x.end(101);
        due("101 and 20", x.feed(1, 2, 3, 4, 5), -1);
        due("still 101", x.count(8), 101);
        x.end(100);
        due("100 and 20", x.feed(1, 2, 3, 4, 5), 120);
        due("end 0", x.end(0), 0);
        due("end 1 of 0", x.end(1), -1);
    }

    private static void tell() {
        promise = 4;
        TurnField x = new TurnField();
        x.put(3, 77L);
        x.grid(2, 3);
        due("told", told(x, "2 up 3 4 ruler 8 heads 1 3 heads 0 0"), 2);
        int[] counts = {2, 4, 0, 2, 3, 8, 2, 3, 0, 0, 3, 9};
        for (int i = 0; i < counts.length; i++) {
            due("count " + i, x.count(i), counts[i]);
        }
        due("place stays", x.place(3), 77L);
        due("grid stays", x.shape(1), 3);
        due("undone", x.undo(), 2);
        due("rows again", x.count(0), 3);
        due("heads again", x.count(6), 0);
        due("tight", told(x, "1near1;;6exact8"), 0);
        due("near", x.count(2), 3);
        due("exact", x.count(3), 1);
        due("K 8", x.count(5), 8);
        due("told again, still", told(x, ";;6up1 6up1heads5 5heads5 5heads05 00;"), 2);
        due("cell", x.cell(5, 5, 2), 1);
        due("cell 5 0", x.cell(5, 0, 2), 1);
        due("zeros before", told(x, "0003up0000000000000000000002 1up1"), 0);
        due("alike told is an act", told(x, "0003up2 1up1"), 0);
        due("acts", x.count(7), 6);
    }

    private static void fault(String text, int place, int why) {
        TurnField x = new TurnField();
        x.turn(1, 1);
        x.put(0, 5L);
        due("fault of '" + text + "'", told(x, text), -2 - (8 * place + why));
        due("tape empty behind '" + text + "'", x.count(8), 0);
        due("heads behind '" + text + "'", x.count(6), 1);
        due("rows behind '" + text + "'", x.count(0), 3);
        due("K behind '" + text + "'", x.count(4), 2);
        due("acts behind '" + text + "'", x.count(7), 2);
    }

    private static void tellFaults() {
        promise = 4;
        fault("", 0, 1);
        fault("   ", 3, 1);
        fault("up", 0, 1);
        fault("0 up 2", 0, 2);
        fault("7 up 2", 0, 2);
        fault("99999999999999999999 up 2", 0, 2);
        fault("4294967297 up 2 1 up 1", 0, 2);
        fault(" 7", 1, 2);
        fault("3", 1, 1);
        fault("3;", 2, 1);
        fault("3 down 2", 2, 1);
        fault("3 upp 2", 2, 1);
        fault("3 u 2", 2, 1);
        fault("3 xp 2", 2, 1);
        fault("3 up 2 3 up 2 beads 1 1", 14, 1);
        fault("3 Up 2", 2, 1);
        fault("3 uP 2", 2, 1);
        fault("3 heads 2", 2, 1);
        fault("3 up 0", 5, 2);
        fault("3 up 9", 5, 2);
        fault("3 up -1", 5, 1);
        fault("3 up 2", 6, 1);
        fault("3 up 2 0", 7, 2);
        fault("3 up 2 3", 8, 1);
        fault("3 up 2 3 near", 13, 1);
        fault("3 up 2 3 near 09 ", 14, 2);
        fault("3 up 2 3 up 2 5", 14, 1);
        fault("3 up 2 3 up 2 tails 1 1", 14, 1);
        fault("3 up 2 3 up 2,heads 1 1", 13, 1);
        fault("3 up 2 3 up 2 heads", 19, 1);
        fault("3 up 2 3 up 2 heads 3 1", 20, 2);
        fault("3 up 2 3 up 2 heads 2 3", 22, 2);
        fault("3 up 2 3 up 2 heads 2 heads", 22, 1);
        fault("3 up 2 3 up 2 heads 1 1 heads 1", 31, 1);
        fault("3 up 2 3 up 2 heads 1 1 up", 24, 1);
        fault("3 up 2 3 up 2 heads12", 19, 2);
        fault("3 up 2\n3 up 2", 6, 1);
        fault("3 up 2 3 up 2 heads 1 1 \u00e9", 24, 1);
        // the first place that is wrong counts
        fault("9 xx 9", 0, 2);
        fault("3 xx 99", 2, 1);
    }

    private static void turn() {
        promise = 5;
        TurnField x = new TurnField();
        due("turn", x.turn(0, 0), 1);
        due("turn", x.turn(2, 1), 2);
        due("back", x.turn(0, 0), 1);
        due("row", x.turn(3, 0), -1);
        due("column", x.turn(0, 3), -1);
        due("below", x.turn(-1, 0), -1);
        due("below", x.turn(0, -1), -1);
        due("far", x.turn(FAR, LOW), -1);
        due("acts", x.count(7), 3);
        due("rows", x.count(10), 4);
        due("columns", x.count(11), 2);
        TurnField wide = board("6 up 1 6 up 1");
        due("last", wide.turn(5, 5), 1);
        due("its row", wide.count(10), 32);
        due("its column", wide.count(11), 32);
        due("behind", wide.turn(5, 6), -1);
    }

    private static void play() {
        promise = 6;
        TurnField x = board("3 up 2 3 up 2 heads 2 2 heads 1 1");
        due("no rows", x.play(0, 1), -1);
        due("no columns", x.play(1, 0), -1);
        due("rows not there", x.play(8, 1), -1);
        due("columns not there", x.play(1, 8), -1);
        due("below", x.play(-1, 1), -1);
        due("low", x.play(1, LOW), -1);
        due("far", x.play(FAR, 1), -1);
        due("three rows", x.play(7, 1), -2);
        due("three columns", x.play(1, 7), -2);
        due("tails", x.play(1, 1), -2);
        due("greatest tails", x.play(4, 2), -2);
        due("acts", x.count(7), 1);
        // 2 2, 2 1, 1 2, 1 1 are turned
        due("four", x.play(6, 6), 2);
        due("1 1", x.cell(1, 1, 2), 0);
        due("1 2", x.cell(1, 2, 2), 1);
        due("2 1", x.cell(2, 1, 2), 1);
        due("2 2", x.cell(2, 2, 2), 0);
        due("one", x.play(2, 4), 1);
        due("acts", x.count(7), 3);
        TurnField near = board("4 near 2 1 exact 1 heads 3 0");
        due("too far", near.play(9, 1), -2);
        due("near", near.play(10, 1), 1);
        TurnField exact = board("4 exact 2 1 exact 1 heads 3 0");
        due("one of exact 2", exact.play(8, 1), -2);
        due("two of exact 2", exact.play(9, 1), 1);
        TurnField ruler = board("4 ruler 3 1 exact 1 heads 3 0");
        due("gap", ruler.play(10, 1), -2);
        due("four", ruler.play(15, 1), -2);
        due("three", ruler.play(14, 1), 2);
    }

    private static void answer() {
        promise = 7;
        TurnField x = board("3 up 2 3 up 2 heads 1 1 heads 0 2");
        // worths 3 and 3: the board is lost, the first move turns 0 2 alone
        due("total", x.total(), 0);
        due("lost", x.answer(), 0);
        due("one left", x.count(6), 1);
        due("it is 1 1", x.cell(1, 1, 2), 1);
        due("acts", x.count(7), 2);
        due("wins", x.answer(), 1);
        due("none left", x.count(6), 0);
        due("no move", x.answer(), -2);
        due("acts", x.count(7), 3);
        TurnField exact = board("2 exact 2 2 up 1 heads 0 0");
        due("heads, but no move", exact.answer(), -2);
        TurnField first = board("1 up 1 3 up 2 heads 0 2 heads 0 0");
        // worths 1 and 3, together 2: columns 2 and 0 have just that
        due("wins", first.answer(), 1);
        due("none left", first.count(6), 0);
        TurnField many = board("1 up 1 6 up 3 heads 0 5 heads 0 3 heads 0 2");
        // worths 1, 2, 4, 7, 8, 11: heads 4, 7, 11, together 8; of greatest coin 3 none has 8, of 5 that is
        // 11 and 1 and 2, 11 and 7 and 4: columns 1 2 and 32 come first (35)
        due("two win", many.moves(1), 2);
        due("first", many.move(1, 0, 2), 35);
        due("second", many.move(1, 1, 2), 44);
        due("the first is played", many.answer(), 1);
        due("its columns", many.count(11), 15);
    }

    private static void put() {
        promise = 8;
        TurnField x = new TurnField();
        due("put", x.put(7, -5L), 1);
        due("it has", x.put(7, -5L), -2);
        due("zero", x.put(0, 0L), -2);
        due("without", x.put(8, 1L), -1);
        due("below", x.put(-1, 0L), -1);
        due("far", x.put(FAR, 0L), -1);
        due("acts", x.count(7), 1);
        due("place", x.place(7), -5L);
        due("back to 0", x.put(7, 0L), 1);
        due("acts", x.count(7), 2);
    }

    private static void reckon() {
        promise = 9;
        TurnField x = places(4L, 6L, 0L, -1L);
        due("sum", x.reckon(4, 0, 1, 0), 1);
        due("it", x.place(4), 2L);
        due("product", x.reckon(4, 0, 0, 1), 1);
        due("it", x.place(4), 6L);
        due("quotient", x.reckon(4, 1, 0, 2), 1);
        due("it", x.place(4), 4L);
        due("by zero", x.reckon(4, 1, 2, 2), -2);
        due("zero by zero", x.reckon(4, 2, 2, 2), -2);
        due("still", x.place(4), 4L);
        due("acts", x.count(7), 6);
        due("root", x.reckon(5, 1, -9, 3), 1);
        due("it", x.place(5), 4L);
        due("power", x.reckon(5, 0, 5, 4), 1);
        due("4 to 4", x.place(5), 5L);
        due("power without sign", x.reckon(5, 0, 3, 4), 1);
        due("to 2 to 64 less 1", x.place(5), 1L);
        due("power of 0 by 0", x.reckon(5, 2, 2, 4), 1);
        due("it", x.place(5), 1L);
        due("nothing changes, an act", x.reckon(5, 2, 2, 4), 1);
        due("acts", x.count(7), 10);
        due("place", x.reckon(8, 0, 0, 0), -1);
        due("x", x.reckon(0, -1, 0, 0), -1);
        due("x for root", x.reckon(0, 8, 0, 3), -1);
        due("y", x.reckon(0, 0, 8, 0), -1);
        due("y of quotient", x.reckon(0, 0, -1, 2), -1);
        due("how", x.reckon(0, 0, 0, 5), -1);
        due("how", x.reckon(0, 0, 2, -1), -1);
        due("NONE before -2", x.reckon(9, 0, 2, 2), -1);
        due("place 0", x.place(0), 4L);
    }

    private static void undo() {
        promise = 10;
        TurnField x = new TurnField();
        due("none", x.undo(), -1);
        for (int i = 1; i <= 12; i++) {
            x.put(0, i);
        }
        due("ten", x.count(7), 10);
        for (int i = 11; i >= 2; i--) {
            due("undo", x.undo(), i - 2);
            due("place", x.place(0), i);
        }
        due("none", x.undo(), -1);
        due("place", x.place(0), 2L);
        TurnField y = new TurnField();
        y.grid(2, 2);
        y.enter(0, 0, 3L);
        y.enter(1, 1, 2L);
        y.invert();
        y.keep(0);
        y.multiply(0);
        y.turn(2, 2);
        y.play(6, 6);
        y.answer();
        due("acts", y.count(7), 8);
        due("undo answer", y.undo(), 7);
        due("heads", y.count(6), 3);
        due("undo play", y.undo(), 6);
        due("heads", y.count(6), 1);
        due("undo turn", y.undo(), 5);
        due("heads", y.count(6), 0);
        due("undo multiply", y.undo(), 4);
        due("entry", y.entry(0, 0, 0), 2L);
        due("undo invert", y.undo(), 3);
        due("entry", y.entry(0, 0, 0), 3L);
        due("undo enter", y.undo(), 2);
        due("entry", y.entry(1, 1, 0), 0L);
        due("undo", y.undo(), 1);
        due("undo grid", y.undo(), 0);
        due("rows", y.shape(0), 1);
        due("none", y.undo(), -1);
        due("kept stays", y.count(9), 1);
    }

    private static void keepAndBack() {
        promise = 11;
        TurnField x = new TurnField();
        x.turn(1, 1);
        x.put(2, 9L);
        x.grid(1, 2);
        x.enter(0, 1, 8L);
        due("keep", x.keep(1), 1);
        due("bits", x.count(9), 2);
        due("no act", x.count(7), 4);
        due("without", x.keep(2), -1);
        due("below", x.keep(-1), -1);
        due("bits", x.count(9), 2);
        promise = 12;
        due("nothing", x.back(0), -2);
        due("without", x.back(2), -1);
        due("below", x.back(-1), -1);
        due("no act", x.count(7), 4);
        told(x, "2 near 1 4 exact 3");
        x.put(2, 10L);
        x.grid(3, 3);
        due("back", x.back(1), 1);
        due("rows", x.count(0), 3);
        due("kind", x.count(2), 0);
        due("place", x.place(2), 9L);
        due("columns of the grid", x.shape(1), 2);
        due("entry", x.entry(0, 1, 0), 8L);
        due("acts", x.count(7), 8);
        due("undone", x.undo(), 7);
        due("rows", x.count(0), 2);
        due("place", x.place(2), 10L);
        due("grid", x.shape(0), 3);
        x.back(1);
        x.turn(0, 0);
        due("kept is not turned", x.back(1), 1);
        due("tape is none of it", x.feed(1, 2, 3, 4, 5), 20);
        x.back(1);
        due("tape stays", x.count(8), 20);
        promise = 11;
        x.turn(0, 0);
        due("kept anew", x.keep(1), 2);
        x.turn(0, 0);
        due("the new one", x.back(1), 2);
        due("both", x.keep(0), 2);
        due("bits", x.count(9), 3);
    }

    private static void grid() {
        promise = 13;
        TurnField x = new TurnField();
        due("grid", x.grid(4, 3), 12);
        due("entry", x.enter(3, 2, 1L), 1);
        due("0 rows", x.grid(0, 1), -1);
        due("5 rows", x.grid(5, 1), -1);
        due("0 columns", x.grid(1, 0), -1);
        due("5 columns", x.grid(1, 5), -1);
        due("far", x.grid(FAR, LOW), -1);
        due("rows", x.shape(0), 4);
        due("columns", x.shape(1), 3);
        due("the same one", x.grid(4, 3), 12);
        due("is 0", x.entry(3, 2, 0), 0L);
        due("acts", x.count(7), 3);
        due("1 1", x.grid(1, 1), 1);
    }

    private static void enter() {
        promise = 14;
        TurnField x = new TurnField();
        x.grid(2, 3);
        due("enter", x.enter(1, 2, -7L), 1);
        due("so", x.enter(1, 2, -7L), -2);
        due("0", x.enter(0, 0, 0L), -2);
        due("row", x.enter(2, 0, 1L), -1);
        due("column", x.enter(0, 3, 1L), -1);
        due("below", x.enter(-1, 0, 0L), -1);
        due("below", x.enter(0, -1, 0L), -1);
        due("acts", x.count(7), 2);
        due("entry", x.entry(1, 2, 0), -7L);
    }

    private static void multiply() {
        promise = 15;
        TurnField x = gridOf(2, 2L, 4L, 1L, 16L, 0L, 3L);
        due("nothing kept", x.multiply(0), -1);
        due("without", x.multiply(2), -1);
        due("below", x.multiply(-1), -1);
        x.keep(0);
        due("3 x 2 by 3 x 2", x.multiply(0), -2);
        TurnField y = gridOf(2, 2L, 4L, 1L, 16L, 0L, 3L);
        setGrid(y, 4, 2L, 0L, 1L, 4L, 4L, 0L, 1L, 8L);
        y.keep(1);
        setGrid(y, 2, 2L, 4L, 1L, 16L, 0L, 3L);
        due("3 x 4", y.multiply(1), 12);
        // 2 2 = 3, 4 4 = 6, 16 4 = 64, 3 4 = 12, 2 4 = 8, 4 8 = 11, 16 8 = 128, 3 8 = 4
        dueGrid("product", y, 0, 4, 5L, 0L, 6L, 3L, 66L, 0L, 17L, 132L, 12L, 0L, 3L, 4L);
        due("rows", y.shape(0), 3);
        due("columns", y.shape(1), 4);
        y.undo();
        due("undone", y.shape(1), 2);
        due("entry", y.entry(2, 1, 0), 3L);
    }

    private static void invert() {
        promise = 16;
        TurnField x = gridOf(1, 4L);
        due("1 x 1", x.invert(), 1);
        due("it", x.entry(0, 0, 0), 15L);
        TurnField swap = gridOf(2, 0L, 2L, 1L, 0L);
        due("swap", swap.invert(), 1);
        dueGrid("inverse", swap, 0, 2, 0L, 1L, 3L, 0L);
        due("acts", swap.count(7), 4);
        TurnField none = gridOf(2, 1L, 2L, 2L, 3L);
        due("none", none.invert(), -2);
        dueGrid("still", none, 0, 2, 1L, 2L, 2L, 3L);
        due("acts", none.count(7), 5);
        due("new one", new TurnField().invert(), -2);
        due("not square", gridOf(2, 1L, 2L).invert(), -2);
        TurnField y = gridOf(4, 1L, 2L, 3L, 4L, 5L, 6L, 7L, 8L, 9L, 10L, 11L, -12L, 13L, 1L << 40, 15L, 16L);
        y.keep(0);
        due("4 x 4", y.invert(), 1);
        y.multiply(0);
        dueGrid("unit", y, 0, 4, 1L, 0L, 0L, 0L, 0L, 1L, 0L, 0L, 0L, 0L, 1L, 0L, 0L, 0L, 0L, 1L);
    }

    private static void stepForm() {
        promise = 17;
        TurnField x = gridOf(3, 0L, 0L, 2L, 0L, 2L, 1L, 0L, 2L, 3L);
        dueGrid("entries", x, 0, 3, 0L, 0L, 2L, 0L, 2L, 1L, 0L, 2L, 3L);
        dueGrid("steps", x, 1, 3, 0L, 1L, 0L, 0L, 0L, 1L, 0L, 0L, 0L);
        TurnField y = gridOf(3, 2L, 4L, 6L, 1L, 0L, 3L);
        // row 1 leads; 2 times it beside the other: 4, 6 and 1: 4 and 7; 7 by 4 (15): 4 1, 2 1, 1 1
        due("first", y.entry(0, 0, 1), 1L);
        due("beside", y.entry(0, 1, 1), 0L);
        due("beside", y.entry(0, 2, 1), 3L);
        due("second", y.entry(1, 1, 1), 1L);
        due("its last", y.entry(1, 2, 1), y.times(7L, 15L));
        due("row", y.entry(2, 0, 0), 0L);
        due("column", y.entry(0, 3, 1), 0L);
        due("below", y.entry(-1, 0, 0), 0L);
        due("below", y.entry(0, -1, 0), 0L);
        due("what", y.entry(0, 0, 2), 0L);
        due("what", y.entry(0, 0, -1), 0L);
        due("grid is as it was", y.entry(0, 0, 0), 2L);
        due("no act", y.count(7), 6);
    }

    private static void determinant() {
        promise = 18;
        due("new", new TurnField().determinant(), 0L);
        due("1 x 1", gridOf(1, -9L).determinant(), -9L);
        // 2 3 = 1, 4 4 = 6
        due("2 x 2", gridOf(2, 2L, 4L, 4L, 3L).determinant(), 7L);
        due("alike", gridOf(2, 2L, 3L, 2L, 3L).determinant(), 0L);
        due("0 first", gridOf(2, 0L, 4L, 2L, 5L).determinant(), 8L);
        due("not square", gridOf(2, 1L, 0L).determinant(), 0L);
        due("3 x 3", gridOf(3, 0L, 0L, 2L, 0L, 4L, 9L, 16L, 7L, 7L).determinant(), 128L);
        due("4 x 4", gridOf(4, 0L, 2L, 0L, 0L, 0L, 0L, 3L, 0L, 0L, 0L, 0L, 4L, 16L, 0L, 0L, 0L).determinant(), 64L);
    }

    private static void shapeAndSolution() {
        promise = 19;
        TurnField x = gridOf(4, 1L, 0L, 2L, 5L, 0L, 1L, 3L, 7L, 1L, 1L, 1L, 2L);
        due("rows", x.shape(0), 3);
        due("columns", x.shape(1), 4);
        due("rank", x.shape(2), 2);
        due("free", x.shape(3), 1);
        due("others", x.shape(4), -1);
        due("below", x.shape(-1), -1);
        promise = 20;
        due("first", x.solution(0), 5L);
        due("second", x.solution(1), 7L);
        due("third is free", x.solution(2), 0L);
        due("without", x.solution(3), 0L);
        due("below", x.solution(-1), 0L);
        promise = 19;
        x.enter(2, 3, 3L);
        due("rank", x.shape(2), 3);
        due("none", x.shape(3), -2);
        promise = 20;
        due("none", x.solution(0), 0L);
        promise = 19;
        TurnField one = gridOf(1, 0L, 0L);
        due("one column", one.shape(3), 0);
        one.enter(1, 0, 4L);
        due("one column, not 0", one.shape(3), -2);
        due("no unknown", one.solution(0), 0L);
        due("new", new TurnField().shape(3), 0);
        due("new rank", new TurnField().shape(2), 0);
        due("all free", gridOf(4, 0L, 0L, 0L, 0L).shape(3), 3);
        promise = 20;
        TurnField gap = gridOf(3, 0L, 2L, 4L);
        due("free first", gap.solution(0), 0L);
        // 4 by 2: 4 times 3
        due("second", gap.solution(1), 12L);
        due("whole", gridOf(3, 2L, 0L, 1L, 0L, 3L, 1L).solution(0), 3L);
    }

    private static void roots() {
        promise = 21;
        TurnField x = places(0L, 1L, 1L);
        due("x x and x", x.roots(0, -1), 2);
        due("0", x.roots(0, 0), 0);
        due("1", x.roots(0, 1), 1);
        due("no more", x.roots(0, 2), -2);
        due("level 4", x.roots(4, -1), 2);
        TurnField y = places(1L, 1L, 1L);
        due("none in level 0", y.roots(0, -1), 0);
        due("none", y.roots(0, 0), -2);
        due("two in level 1", y.roots(1, -1), 2);
        due("2", y.roots(1, 0), 2);
        due("3", y.roots(1, 1), 3);
        due("k below", y.roots(1, -2), -1);
        due("k low", y.roots(1, LOW), -1);
        due("k far", y.roots(1, FAR), -2);
        due("level 5", y.roots(5, 0), -1);
        due("level below", y.roots(-1, 0), -1);
        TurnField zero = new TurnField();
        int[] all = {2, 4, 16, 256, 65536};
        for (int level = 0; level < 5; level++) {
            due("all of level " + level, zero.roots(level, -1), all[level]);
            due("last of level " + level, zero.roots(level, all[level] - 1), all[level] - 1);
            due("behind level " + level, zero.roots(level, all[level]), -2);
        }
        TurnField constant = places(5L);
        due("a constant", constant.roots(4, -1), 0);
        due("a constant", constant.roots(4, 0), -2);
        TurnField seven = places(0L);
        // x to 7 and 1 in level 2: the only root is 1; in level 3 too (7 does not divide 255)
        seven.put(0, 1L);
        seven.put(7, 1L);
        due("x to 7", seven.roots(3, -1), 1);
        due("1", seven.roots(3, 0), 1);
        TurnField five = places(1L, 0L, 0L, 0L, 0L, 1L);
        due("x to 5 in level 1", five.roots(1, -1), 1);
        due("x to 5 in level 2", five.roots(2, -1), 5);
        due("the fifth", five.roots(2, 4), 14);
        TurnField twice = places(6L, 0L, 1L);
        due("twice the same", twice.roots(2, -1), 1);
        due("it", twice.roots(2, 0), 4);
        TurnField high = places(1L << 16, 1L);
        due("not of level 4", high.roots(4, -1), 0);
        // (x and 40000) (x and 3) times a number of 64 bits
        long[] f = {high.times(40000L, 3L), 40003L, 1L};
        TurnField big = places(high.times(f[0], -77L), high.times(f[1], -77L), -77L);
        due("level 4", big.roots(4, -1), 2);
        due("3", big.roots(4, 0), 3);
        due("40000", big.roots(4, 1), 40000);
        due("level 3", big.roots(3, -1), 1);
    }

    private static void common() {
        promise = 22;
        due("both 0", new TurnField().common(0), 0L);
        TurnField x = new TurnField();
        // (x and 2) (x and 3) = x x and x and 1; (x and 2) times 4
        x.put(0, 1L);
        x.put(1, 1L);
        x.put(2, 1L);
        x.put(4, 8L);
        x.put(5, 4L);
        due("0", x.common(0), 2L);
        due("1", x.common(1), 1L);
        due("2", x.common(2), 0L);
        due("3", x.common(3), 0L);
        due("4", x.common(4), 0L);
        due("below", x.common(-1), 0L);
        TurnField one = places(0L, 0L, 4L, 2L);
        // one is 0: the other one, by its highest: 4 by 2 is 4 times 3
        due("other", one.common(3), 1L);
        due("other", one.common(2), 12L);
        TurnField behind = places(0L, 0L, 0L, 0L, 6L);
        due("constant", behind.common(0), 1L);
        due("unlike", places(1L, 1L, 0L, 0L, 2L, 1L).common(0), 1L);
        due("unlike", places(1L, 1L, 0L, 0L, 2L, 1L).common(1), 0L);
        TurnField same = places(6L, 7L, 1L, 9L, 6L, 7L, 1L, 9L);
        due("same", same.common(3), 1L);
        due("same", same.common(2), same.inverse(9L));
    }

    private static void mended() {
        promise = 23;
        long[] f = {5L, -1L, 1L << 50, 7L};
        TurnField x = places(f);
        long[] values = new long[8];
        for (int i = 0; i < 8; i++) {
            values[i] = x.at(i, 0);
        }
        for (int a = 0; a < 8; a++) {
            for (int b = a; b < 8; b++) {
                TurnField y = places(values);
                y.put(a, values[a] ^ 3L);
                y.put(b, values[b] ^ 3L);
                for (int k = 0; k < 4; k++) {
                    promise = 23;
                    due("mended " + k, y.mended(k), f[k]);
                }
                due("others", y.mended(4), 0L);
                due("below", y.mended(-1), 0L);
                promise = 24;
                due("at 100", y.mendedAt(100L), x.at(100L, 0));
                due("at -3", y.mendedAt(-3L), x.at(-3L, 0));
                promise = 25;
                due("how many", y.agrees(0), a == b ? 7 : 6);
                due("which", y.agrees(1), 1 << a | 1 << b);
                due("others", y.agrees(2), -1);
                due("below", y.agrees(-1), -1);
            }
        }
        TurnField none = places(values);
        none.put(0, values[0] ^ 1L);
        none.put(3, values[3] ^ 2L);
        none.put(6, values[6] ^ 4L);
        promise = 23;
        due("none", none.mended(0), 0L);
        promise = 24;
        due("none", none.mendedAt(0L), 0L);
        promise = 25;
        due("none", none.agrees(0), -2);
        due("none", none.agrees(1), -2);
        due("NONE first", none.agrees(2), -1);
        none.put(6, values[6]);
        due("again", none.agrees(1), 9);
        none.undo();
        due("undone", none.agrees(0), -2);
    }

    private static void full() {
        promise = 26;
        TurnField x = new TurnField();
        long[] counts = {1L, 2L, 8L, 128L, 32768L, 32768L * 65536L, 9208981628670443520L};
        for (int level = 0; level < 7; level++) {
            due("how many " + level, x.full(level, 1), counts[level]);
            long least = x.full(level, 0);
            due("level of the least", x.level(least, 0), level);
            due("its order", x.order(least), level == 6 ? -1L : (1L << (1 << level)) - 1L);
        }
        due("level 2", x.full(2, 0), 4L);
        for (long a = 16L; a < x.full(3, 0); a++) {
            due("none below", x.order(a) == 255L ? 1L : 0L, 0L);
        }
        due("level 7", x.full(7, 0), -1L);
        due("level -1", x.full(-1, 1), -1L);
        due("what 2", x.full(1, 2), -1L);
        due("what -1", x.full(1, -1), -1L);
    }

    private static void boards() {
        promise = 27;
        TurnField one = board("1 up 1 3 up 1");
        // each move takes one: even numbers of heads are lost
        due("lost", one.boards(0), 4);
        due("greatest", one.boards(1), 3);
        due("least of these", one.boards(2), 7);
        TurnField ruler = board("2 up 1 1 up 1");
        due("rows apart", ruler.boards(2), 65);
        due("rows' lost", ruler.boards(0), 2);
        TurnField none = board("2 exact 3 2 up 1");
        due("no moves: all lost", none.boards(0), 16);
        due("no moves", none.boards(1), 0);
        due("the least", none.boards(2), 0);
        TurnField twelve = board("2 up 2 6 near 2");
        due("12 cells", twelve.boards(0) > 0L ? 1 : 0, 1);
        TurnField more = board("3 up 2 5 up 2");
        due("15 cells", more.boards(0), -2);
        due("NONE first", more.boards(3), -1);
        due("others", one.boards(3), -1);
        due("below", one.boards(-1), -1);
        // up 2 in a row of 3 (worths 1, 2, 3): lost are none and all three
        TurnField two = board("1 up 1 3 up 2");
        due("lost", two.boards(0), 2);
        // one or two heads are turned at once, all three are not
        due("greatest", two.boards(1), 2);
        due("the least", two.boards(2), 7);
        // one object, told one board behind the other
        TurnField many = new TurnField();
        for (int i = 0; i < 3; i++) {
            told(many, "1 up 1 6 up 1");
            due("half of 64", many.boards(0), 32);
            told(many, "1 up 1 2 up 1");
            due("half of 4", many.boards(0), 2);
            due("both", many.boards(2), 3);
            told(many, "2 up 8 6 up 8");
            due("lost of 12 cells", many.boards(0), lostOfAll(many));
            told(many, "1 exact 2 3 up 1");
            due("no moves", many.boards(2), 0);
            due("none longer", many.boards(1), 0);
        }
        TurnField soon = board("1 up 1 4 ruler 2");
        // worths 1, 2, 1, 2: lost are 0, 5, 10, 15
        due("lost", soon.boards(0), 4);
    }

    /** By what the cells are worth: boards of worth 0 are lost. */
    private static long lostOfAll(TurnField x) {
        int columns = x.count(1);
        int cells = x.count(0) * columns;
        long lost = 0L;
        for (int board = 0; board < 1 << cells; board++) {
            long sum = 0L;
            for (int i = 0; i < cells; i++) {
                sum ^= (board >> i & 1) != 0 ? x.cell(i / columns, i % columns, 0) : 0L;
            }
            lost += sum == 0L ? 1L : 0L;
        }
        return lost;
    }

    private static void game() {
        promise = 28;
        TurnField x = new TurnField();
        due("none", x.game(0), 0);
        due("length 0", x.game(1), 0);
        x.turn(2, 2);
        due("wins", x.game(0), 1);
        due("at once", x.game(1), 1);
        TurnField one = board("1 up 1 5 up 1 heads 0 4 heads 0 1 heads 0 0");
        due("three", one.game(1), 3);
        due("odd wins", one.game(0), 1);
        one.turn(0, 4);
        due("two", one.game(1), 2);
        due("even loses", one.game(0), 0);
        TurnField no = board("2 exact 3 2 up 1 heads 0 0");
        due("no move", no.game(0), 0);
        due("no move", no.game(1), 0);
        TurnField more = board("4 up 2 4 up 2 heads 0 0");
        due("16 cells", more.game(0), -2);
        due("16 cells", more.game(1), -2);
        due("NONE first", more.game(2), -1);
        due("others", x.game(2), -1);
        due("below", x.game(-1), -1);
    }

    private static void products() {
        promise = 29;
        TurnField x = new TurnField();
        long[][] table = new long[40][40];
        for (int a = 0; a < 40; a++) {
            for (int b = 0; b < 40; b++) {
                boolean[] met = new boolean[4096];
                for (int c = 0; c < a; c++) {
                    for (int d = 0; d < b; d++) {
                        met[(int) (table[c][b] ^ table[a][d] ^ table[c][d])] = true;
                    }
                }
                int least = 0;
                while (met[least]) {
                    least++;
                }
                table[a][b] = least;
                due(a + " times " + b, x.times(a, b), least);
            }
        }
        for (int k = 0; k < 6; k++) {
            long f = 1L << (1 << k);
            due("by itself", x.times(f, f), f ^ f >>> 1);
            due("by a lesser one", x.times(f, f - 1L), (f - 1L) * f);
        }
        long a = 0x123456789ABCDEFL;
        long b = -0x1122334455667788L;
        long c = 0x0F1E2D3C4B5A6978L;
        due("one", x.times(a, 1L), a);
        due("none", x.times(a, 0L), 0L);
        due("order", x.times(a, b), x.times(b, a));
        due("together", x.times(x.times(a, b), c), x.times(a, x.times(b, c)));
        due("shared out", x.times(a ^ b, c), x.times(a, c) ^ x.times(b, c));
    }

    private static void inverses() {
        promise = 30;
        TurnField x = new TurnField();
        due("0", x.inverse(0L), 0L);
        long[] some = {1L, 2L, 3L, 255L, 65537L, 1L << 32, 1L << 63, -1L, -2L, 0x123456789ABCDEFL};
        for (long a : some) {
            due("inverse of " + a, x.times(a, x.inverse(a)), 1L);
        }
        due("4", x.inverse(4L), 15L);
    }

    private static void rootsOfNumbers() {
        promise = 31;
        TurnField x = new TurnField();
        long[] some = {0L, 1L, 2L, 3L, 255L, 65537L, 1L << 32, 1L << 63, -1L, -2L, 0x123456789ABCDEFL};
        for (long a : some) {
            due("root of " + a, x.times(x.root(a), x.root(a)), a);
            due("root of its square", x.root(x.times(a, a)), a);
        }
        due("6", x.root(6L), 4L);
    }

    private static void powers() {
        promise = 32;
        TurnField x = new TurnField();
        long a = -0x1122334455667788L;
        due("0 to 0", x.power(0L, 0L), 1L);
        due("0 to 5", x.power(0L, 5L), 0L);
        due("0 to -5", x.power(0L, -5L), 0L);
        due("0 to the lowest", x.power(0L, Long.MIN_VALUE), 0L);
        due("to 0", x.power(a, 0L), 1L);
        due("to 1", x.power(a, 1L), a);
        long power = 1L;
        for (int n = 1; n < 20; n++) {
            power = x.times(power, a);
            due("to " + n, x.power(a, n), power);
            due("to -" + n, x.power(a, -n), x.inverse(power));
        }
        due("to 2 to 62, twice", x.power(x.power(a, 1L << 62), 4L), a);
        due("to the lowest", x.times(x.power(a, Long.MIN_VALUE), x.root(a)), 1L);
        due("to the highest", x.times(x.power(a, Long.MAX_VALUE), a), x.root(a));
    }

    private static void orders() {
        promise = 33;
        TurnField x = new TurnField();
        due("0", x.order(0L), 0L);
        due("1", x.order(1L), 1L);
        for (long a = 2L; a < 256L; a++) {
            long n = 1L;
            for (long power = a; power != 1L; power = x.times(power, a)) {
                n++;
            }
            due("of " + a, x.order(a), n);
        }
        long full = x.full(6, 0);
        due("full", x.order(full), -1L);
        long[] primes = {3L, 5L, 17L, 257L, 641L, 65537L, 6700417L};
        for (long prime : primes) {
            long rest = Long.divideUnsigned(-1L, prime);
            due("without " + prime, x.order(x.power(full, prime)), rest);
            due("of order " + prime, x.order(x.power(full, rest)), prime);
        }
    }

    private static void levels() {
        promise = 34;
        TurnField x = new TurnField();
        for (int k = 0; k < 6; k++) {
            long f = 1L << (1 << k);
            due("below", x.level(f - 1L, 0), k);
            due("from", x.level(f, 0), k + 1);
            due("degree", x.level(f, 1), 2 << k);
        }
        due("0", x.level(0L, 0), 0);
        due("degree of 0", x.level(0L, 1), 1);
        due("highest", x.level(Long.MIN_VALUE, 0), 6);
        due("degree", x.level(-1L, 1), 64);
        due("others", x.level(4L, 2), -1);
        due("below", x.level(4L, -1), -1);
    }

    private static void leastPolynomials() {
        promise = 35;
        TurnField x = new TurnField();
        due("0", x.least(0L), 0L);
        due("1", x.least(1L), 1L);
        due("2", x.least(2L), 3L);
        long[] some = {3L, 5L, 9L, 77L, 255L, 40000L, 1L << 20, 1L << 63, -1L, x.full(6, 0)};
        for (long a : some) {
            long bits = x.least(a);
            int degree = x.level(a, 1);
            long sum = x.power(a, degree);
            for (int i = 0; i < degree; i++) {
                sum ^= (bits >>> i & 1L) != 0L ? x.power(a, i) : 0L;
            }
            due("at " + a, sum, 0L);
            due("below its degree", degree < 64 ? bits >>> degree : 0L, 0L);
            due("its square's", x.least(x.times(a, a)), bits);
        }
    }

    private static void traces() {
        promise = 36;
        TurnField x = new TurnField();
        long[] some = {0L, 1L, 2L, 3L, 8L, 12L, 128L, 255L, 32768L, 1L << 31, 1L << 62, 1L << 63, -1L};
        for (long a : some) {
            for (int level = 0; level <= 6; level++) {
                long sum = 0L;
                long c = a;
                for (int i = 0; i < 1 << level; i++) {
                    sum ^= c;
                    c = x.times(c, c);
                }
                due("of " + a + " in " + level, x.trace(a, level), x.level(a, 0) > level ? -1L : sum);
            }
        }
        due("level 7", x.trace(1L, 7), -1);
        due("level -1", x.trace(0L, -1), -1);
        due("far", x.trace(0L, FAR), -1);
    }

    private static void halves() {
        promise = 37;
        TurnField x = new TurnField();
        due("0", x.half(0L), 0L);
        due("8", x.half(8L), 16L);
        due("none", x.half(1L << 63), 0L);
        due("none", x.half(-1L), 0L);
        long[] some = {1L, 2L, 3L, 6L, 255L, 65535L, 1L << 31, 1L << 62, Long.MAX_VALUE, 0x123456789ABCDEFL};
        for (long a : some) {
            long y = x.half(a);
            due("of " + a, x.times(y, y) ^ y, a);
            due("the lesser", y & 1L, 0L);
        }
    }

    private static void solutions() {
        promise = 38;
        TurnField x = new TurnField();
        due("one", x.solve(0L, 6L, 0), 1L);
        due("it", x.solve(0L, 6L, 1), 4L);
        due("it", x.solve(0L, 6L, 2), 4L);
        due("0 0", x.solve(0L, 0L, 0), 1L);
        due("0 0", x.solve(0L, 0L, 2), 0L);
        long[] some = {1L, 3L, 1L << 40, 1L << 63, -1L};
        for (long p : some) {
            for (long r : some) {
                long q = x.times(r, r ^ p);
                long least = Long.compareUnsigned(r, r ^ p) < 0 ? r : r ^ p;
                due("two", x.solve(p, q, 0), 2L);
                due("least", x.solve(p, q, 1), least);
                due("greatest", x.solve(p, q, 2), least ^ p);
            }
        }
        due("none", x.solve(1L, 1L << 63, 0), 0L);
        due("none", x.solve(1L, 1L << 63, 1), 0L);
        due("none", x.solve(1L, 1L << 63, 2), 0L);
        due("others", x.solve(1L, 1L, 3), 0L);
        due("others", x.solve(0L, 6L, 3), 0L);
        due("below", x.solve(0L, 6L, -1), 0L);
    }

    private static void logarithms() {
        promise = 39;
        TurnField x = new TurnField();
        long full = x.full(4, 0);
        int[] some = {0, 1, 2, 255, 256, 257, 4369, 65534};
        for (int n : some) {
            due("of full, " + n, x.log(x.power(full, n), full), n);
        }
        for (int n = 0; n < 255; n++) {
            due("by its 257th power", x.log(x.power(full, 257L * n), x.power(full, 257L)), n);
        }
        due("none", x.log(full, x.power(full, 3L)), -1);
        due("1 by 1", x.log(1L, 1L), 0);
        due("2 by 1", x.log(2L, 1L), -1);
        due("1 by 0", x.log(1L, 0L), 0);
        due("0 by 0", x.log(0L, 0L), 1);
        due("2 by 0", x.log(2L, 0L), -1);
        due("0 by 2", x.log(0L, 2L), -1);
        due("level 5", x.log(65536L, 2L), -2);
        due("level 5", x.log(1L, 65536L), -2);
        due("asked first", x.log(0L, -1L), -2);
        due("4 by 2", x.log(4L, 2L), -1);
    }

    private static void placesAndAt() {
        promise = 40;
        TurnField x = places(1L, 2L, 3L, -4L, 5L, 6L, 7L, 8L);
        due("place", x.place(3), -4L);
        due("without", x.place(8), 0L);
        due("below", x.place(-1), 0L);
        promise = 41;
        due("at 0", x.at(0L, 0), 1L);
        due("at 1", x.at(1L, 0), 1L ^ 2L ^ 3L ^ -4L ^ 5L ^ 6L ^ 7L ^ 8L);
        long sum = 0L;
        for (int i = 0; i < 8; i++) {
            sum ^= x.times(x.place(i), x.power(-99L, i));
        }
        due("at -99", x.at(-99L, 0), sum);
        for (int i = 0; i < 8; i++) {
            due("through " + i, x.at(i, 1), x.place(i));
        }
        // through x to 7 at 0, 1, .., 7
        TurnField y = new TurnField();
        for (int i = 0; i < 8; i++) {
            y.put(i, y.power(i, 7L));
        }
        due("through x to 7", y.at(-99L, 1), y.power(-99L, 7L));
        due("others", x.at(1L, 2), 0L);
        due("below", x.at(1L, -1), 0L);
    }

    private static void worths() {
        promise = 42;
        TurnField up = board("1 up 1 6 up 3");
        for (int n = 0; n < 12; n++) {
            due("up 1", up.worth(0, n), 1);
        }
        int[] mock = {1, 2, 4, 7, 8, 11, 13, 14, 16, 19, 21, 22};
        for (int n = 0; n < 12; n++) {
            due("up 3 (mock turtles)", up.worth(1, n), mock[n]);
        }
        TurnField ruler = board("6 ruler 8 6 near 2");
        int[] powers = {1, 2, 1, 4, 1, 2, 1, 8, 1, 2, 1, 4};
        int[] turn = {1, 2, 3, 1, 2, 3, 1, 2, 3, 1, 2, 3};
        for (int n = 0; n < 12; n++) {
            due("ruler", ruler.worth(0, n), powers[n]);
            due("near 2", ruler.worth(1, n), turn[n]);
        }
        TurnField exact = board("1 exact 2 1 exact 3");
        for (int n = 0; n < 12; n++) {
            due("exact 2", exact.worth(0, n), n);
            due("exact 3", exact.worth(1, n), n < 2 ? 0 : mock[n - 2]);
        }
        TurnField all = board("1 up 8 1 up 2");
        due("up 8", all.worth(0, 7), 128);
        due("up 2", all.worth(1, 11), 12);
        due("side", all.worth(2, 0), -1);
        due("side", all.worth(-1, 0), -1);
        due("coin", all.worth(0, 12), -1);
        due("coin", all.worth(0, -1), -1);
    }

    private static void cells() {
        promise = 43;
        TurnField x = board("6 up 8 6 up 8 heads 5 4");
        for (int r = 0; r < 6; r++) {
            for (int c = 0; c < 6; c++) {
                due("product", x.cell(r, c, 0), x.times(1L << r, 1L << c));
                due("least excluded", x.cell(r, c, 1), x.times(1L << r, 1L << c));
                due("heads", x.cell(r, c, 2), r == 5 && c == 4 ? 1 : 0);
            }
        }
        due("row", x.cell(6, 0, 0), -1);
        due("column", x.cell(0, 6, 1), -1);
        due("below", x.cell(-1, 0, 2), -1);
        due("below", x.cell(0, -1, 2), -1);
        due("what", x.cell(0, 0, 3), -1);
        due("what", x.cell(0, 0, -1), -1);
        due("not of this board", new TurnField().cell(3, 0, 0), -1);
    }

    private static void leastExcludedOfAllRules() {
        promise = 43;
        String[] kinds = {"up", "exact", "ruler", "near"};
        for (int rule = 0; rule < 1024; rule++) {
            int k = rule >> 2 & 7;
            int j = rule >> 7 & 7;
            TurnField x = board("6" + kinds[rule & 3] + (k + 1) + " 6" + kinds[rule >> 5 & 3] + (j + 1));
            int[][] least = new int[6][6];
            for (int cell = 0; cell < 36; cell++) {
                int want = excludedAt(least, cell / 6, cell % 6, rule & 3, k + 1, rule >> 5 & 3, j + 1);
                least[cell / 6][cell % 6] = want;
                if (x.cell(cell / 6, cell % 6, 1) != want) {
                    due("rule " + rule + " cell " + cell, x.cell(cell / 6, cell % 6, 1), want);
                }
            }
        }
    }

    private static int excludedAt(int[][] least, int r, int c, int kind, int k, int otherKind, int j) {
        boolean[] met = new boolean[4096];
        for (int rows = 1 << r; rows < 2 << r; rows++) {
            for (int columns = 1 << c; mayBe(rows, kind, k) && columns < 2 << c; columns++) {
                if (mayBe(columns, otherKind, j)) {
                    int sum = 0;
                    for (int i = 0; i <= r; i++) {
                        for (int n = 0; n <= c; n++) {
                            sum ^= (rows >> i & 1) != 0 && (columns >> n & 1) != 0 ? least[i][n] : 0;
                        }
                    }
                    met[sum ^ least[r][c]] = true;
                }
            }
        }
        int n = 0;
        while (met[n]) {
            n++;
        }
        return n;
    }

    private static boolean mayBe(int set, int kind, int k) {
        int n = Integer.bitCount(set);
        int width = 31 - Integer.numberOfLeadingZeros(set) - Integer.numberOfTrailingZeros(set);
        switch (kind) {
            case 0: return n <= k;
            case 1: return n == k;
            case 2: return n <= k && width == n - 1;
            default: return n == 1 || n == 2 && width <= k;
        }
    }

    private static void totals() {
        promise = 44;
        TurnField x = new TurnField();
        due("none", x.total(), 0L);
        x.turn(1, 1);
        due("2 2", x.total(), 3L);
        x.turn(2, 2);
        due("2 2 and 3 3", x.total(), 1L);
        TurnField wide = board("6 up 8 6 up 8 heads 5 5 heads 4 4");
        due("32 32, 16 16", wide.total(), wide.times(32L, 32L) ^ wide.times(16L, 16L));
    }

    private static void moves() {
        promise = 45;
        TurnField x = board("3 up 2 3 up 2 heads 1 1 heads 2 0");
        // of 1 1: rows 2, 3 and columns 2, 3; of 2 0: rows 4, 5, 6 and column 1
        due("moves", x.moves(0), 7);
        // worths 3 and 3: lost
        due("win", x.moves(1), 0);
        due("others", x.moves(2), -1);
        due("below", x.moves(-1), -1);
        promise = 46;
        int[][] moves = {{2, 2}, {2, 3}, {3, 2}, {3, 3}, {4, 1}, {5, 1}, {6, 1}};
        for (int k = 0; k < 7; k++) {
            due("rows of " + k, x.move(0, k, 1), moves[k][0]);
            due("columns of " + k, x.move(0, k, 2), moves[k][1]);
            due("behind " + k, x.move(0, k, 3), behind(x, moves[k][0], moves[k][1]));
        }
        due("not so many", x.move(0, 7, 1), -2);
        due("not so many", x.move(0, FAR, 3), -2);
        due("k", x.move(0, -1, 1), -1);
        due("which", x.move(2, 0, 1), -1);
        due("which", x.move(-1, 0, 1), -1);
        due("what 0", x.move(0, 0, 0), -1);
        due("what 4", x.move(0, 0, 4), -1);
        due("NONE first", x.move(0, 99, 4), -1);
        TurnField one = board("3 up 2 3 up 2 heads 2 2 heads 0 0");
        // 2 and 1: worth 3; the moves of worth 3 win
        due("total", one.total(), 3L);
        due("how many win", one.moves(1), winsOf(one));
        for (int k = 0; k < one.moves(1); k++) {
            due("behind a move that wins", one.move(1, k, 3), 0);
            due("its worth", behind(one, one.move(1, k, 1), one.move(1, k, 2)), 0);
        }
        due("not so many", one.move(1, one.moves(1), 1), -2);
        TurnField lost = board("1 up 1 2 up 1 heads 0 0 heads 0 1");
        due("none wins", lost.moves(1), 0);
        due("none wins", lost.move(1, 0, 1), -2);
    }

    private static int winsOf(TurnField x) {
        int wins = 0;
        for (int k = 0; k < x.moves(0); k++) {
            wins += behind(x, x.move(0, k, 1), x.move(0, k, 2)) == 0L ? 1 : 0;
        }
        return wins;
    }

    private static long behind(TurnField x, int rows, int columns) {
        x.play(rows, columns);
        long total = x.total();
        x.undo();
        return total;
    }

    private static void sets() {
        promise = 47;
        TurnField x = board("1 up 3 1 exact 3");
        due("up 3 of 11", x.sets(0, 11), 1 + 11 + 55);
        due("up 3 of 0", x.sets(0, 0), 1);
        due("exact 3 of 11", x.sets(1, 11), 55);
        due("exact 3 of 1", x.sets(1, 1), 0);
        TurnField y = board("1 ruler 8 1 near 3");
        due("ruler 8 of 11", y.sets(0, 11), 8);
        due("ruler 8 of 4", y.sets(0, 4), 5);
        due("near 3 of 11", y.sets(1, 11), 4);
        due("near 3 of 1", y.sets(1, 1), 2);
        due("side", y.sets(2, 0), -1);
        due("side", y.sets(-1, 0), -1);
        due("coin", y.sets(0, 12), -1);
        due("coin", y.sets(0, -1), -1);
    }

    private static void counts() {
        promise = 48;
        TurnField x = board("4 near 5 6 ruler 7 heads 3 1 heads 0 5");
        x.feed(1, 2, 3, 4, 5);
        x.keep(1);
        int[] counts = {4, 6, 3, 2, 5, 7, 2, 1, 20, 2, 9, 34};
        for (int i = 0; i < counts.length; i++) {
            due("count " + i, x.count(i), counts[i]);
        }
        due("12", x.count(12), -1);
        due("-1", x.count(-1), -1);
        due("far", x.count(FAR), -1);
    }
}
