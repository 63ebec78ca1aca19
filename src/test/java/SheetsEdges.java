/** Boundary cases of promises 36 to 39: sheets, a burl drawn of them, counts. */
final class SheetsEdges {
    private static final int MIN = Integer.MIN_VALUE, MAX = Integer.MAX_VALUE;

    private SheetsEdges() { }

    static void run(Edges e) {
        runSheet(e);
        runLay(e);
        runDraw(e);
        runCount(e);
    }

    private static BurlPipes sheet(int w, int h, int lane, int cells) {
        BurlPipes x = new BurlPipes();
        x.burl(w, h);
        x.sheet(0, lane, cells);
        return x;
    }

    /** What a cell says when v was laid in it: a grain, 10 for a crack, or the refusal. */
    private static int cell(int lane, int v) {
        BurlPipes x = sheet(1, 1, lane, 1);
        x.lay(0, 0, v);
        int cracks = x.draw(0, lane, 0);
        return cracks < 0 ? cracks : cracks == 1 ? 10 : x.grain(0, 0, 0);
    }

    private static void runSheet(Edges e) {
        e.test(36, "SHEETS 0 to 3 are rows of BYTES (lane 0), SHORTS (1), INTS (2)", SheetsEdges::lanes);
        e.test(36, "with 0 to 64 CELLS,", SheetsEdges::cellsOfASheet);
        e.test(36, "or nothing (at first).", t -> {
            t.due("at first", new BurlPipes().count(5), -4);
            t.due("no cells are not nothing", sheet(1, 1, 0, 0).count(5), 0);
            t.due("the others stay nothing", sheet(1, 1, 0, 0).lay(1, 0, 0), -11);
        });
        e.test(36, "A SHEET is a new row of CELLS 0: 1.", SheetsEdges::newRow);
        e.test(36, "BAD: also n above 64; -10 - 4.", t -> {
            for (State state : State.values()) {
                t.refused(state, -1, x -> x.sheet(0, 0, 65), x -> x.sheet(3, 2, MAX), x -> x.sheet(4, 0, 65));
                t.refused(state, -14, x -> x.sheet(0, 0, -1), x -> x.sheet(3, 2, MIN), x -> x.sheet(1, 1, -64));
            }
        });
        e.test(36, "A FAULT is what the machine finds: 1 NULL (nothing), 2 INDEX, 3 CAST (another lane), 4 SIZE"
                + " (below 0).",
                SheetsEdges::eachFault);
    }

    private static void lanes(Edges e) {
        e.beside(0, 3, -1, (x, v) -> x.sheet(v, 0, 1));
        e.taken(State.NEW, 0, 3, 1, (x, v) -> x.sheet(v, 0, 1));
        e.beside(0, 2, -1, (x, v) -> x.sheet(0, v, 1));
        e.taken(State.NEW, 0, 2, 1, (x, v) -> x.sheet(0, v, 1));
        int[] lowest = {256, 65536};
        for (int lane = 0; lane < 3; lane++) {
            e.due("as wide as a byte, lane " + lane, cell(lane, lowest[0] + 1), lane == 0 ? 1 : -100);
            e.due("as wide as a short, lane " + lane, cell(lane, lowest[1] + 1), lane == 2 ? -100 : 1);
        }
    }

    private static void cellsOfASheet(Edges e) {
        e.taken(State.NEW, 0, 64, 1, (x, v) -> x.sheet(0, 0, v));
        e.taken(State.NEW, 0, 64, 1, (x, v) -> x.sheet(0, 0, v) + x.count(5) - v);
        for (int n : new int[] {0, 1, 63, 64}) {
            BurlPipes x = sheet(1, 1, 2, n);
            e.due("the last cell of " + n, x.lay(0, n - 1, 0), n == 0 ? -12 : 1);
            e.due("behind it", x.lay(0, n, 0), -12);
        }
    }

    private static void eachFault(Edges e) {
        BurlPipes x = new BurlPipes();
        e.due("null", x.lay(0, 0, 0), -10 - 1);
        e.due("size", x.sheet(0, 0, -1), -10 - 4);
        e.due("null still", x.draw(0, 0, 0), -10 - 1);
        x.sheet(0, 0, 1);
        e.due("index", x.lay(0, 1, 0), -10 - 2);
        e.due("cast", x.draw(0, 1, 0), -10 - 3);
    }

    private static void newRow(Edges e) {
        BurlPipes x = State.FULL.make();
        x.burl(8, 8);
        for (int k = 0; k < 4; k++) {
            e.due("sheet " + k, x.sheet(k, 2, 64), 1);
            e.due("its cells", x.draw(k, 2, 0), 0);
            for (int i = 0; i < 10; i++) {
                e.due("cell " + i * 7, x.grain(i * 7 % 8, i * 7 / 8, 0), 0);
            }
        }
        BurlPipes y = sheet(1, 1, 0, 64);
        y.lay(0, 63, 10);
        y.sheet(0, 0, 1);
        y.sheet(0, 0, 64);
        e.due("a longer row behind a shorter one", y.draw(0, 0, 63), 0);
        y.sheet(0, 1, 3);
        e.due("shorter", y.count(5), 3);
        e.due("of another lane", y.draw(0, 0, 0), -13);
        e.due("its last cell", y.draw(0, 1, 2), 0);
        e.due("behind it", y.draw(0, 1, 3), -12);
    }

    private static void runLay(Edges e) {
        e.test(37, "CELL i of a SHEET becomes v (its lowest bits): 1.", SheetsEdges::lowestBits);
        e.test(37, "BAD: k;", t -> t.beside(0, 3, -1, (x, v) -> x.lay(v, 0, 5)));
        e.test(37, "-10 less the FAULT: NULL, INDEX.", SheetsEdges::layFaults);
    }

    private static void layFaults(Edges e) {
        for (int sheet = 0; sheet < 4; sheet++) {
            int k = sheet;
            e.refused(State.NEW, -11, x -> x.lay(k, 0, 5), x -> x.lay(k, -1, 5), x -> x.lay(k, MAX, 5));
            e.beside(State.FULL, 0, 63, -12, (x, v) -> x.lay(k, v, 5));
        }
        e.refused(State.LADEN, -11, x -> x.lay(3, 0, 5));
        e.refused(State.LADEN, -12, x -> x.lay(2, 0, 5), x -> x.lay(2, -1, 5));
        e.beside(State.LADEN, 0, 14, -12, (x, v) -> x.lay(0, v, 5));
        e.beside(State.LADEN, 0, 19, -12, (x, v) -> x.lay(1, v, 5));
    }

    private static void lowestBits(Edges e) {
        int[] bytes = {256, 266, -246, 255, 128, 127, -128, MIN + 9, MAX};
        int[] dueOfBytes = {0, 10, 10, -100, -100, -100, -100, 9, -100};
        for (int i = 0; i < bytes.length; i++) {
            e.due("a byte of " + bytes[i], cell(0, bytes[i]), dueOfBytes[i]);
        }
        int[] shorts = {65536, 65546, -65526, 65535, 32768, 266, 32767, MIN + 9, MAX};
        int[] dueOfShorts = {0, 10, 10, -100, -100, -100, -100, 9, -100};
        for (int i = 0; i < shorts.length; i++) {
            e.due("a short of " + shorts[i], cell(1, shorts[i]), dueOfShorts[i]);
        }
        int[] ints = {65536, 65546, 256, MIN, MIN + 9, MAX, -1, 10, 0};
        int[] dueOfInts = {-100, -100, -100, -100, -100, -100, -100, 10, 0};
        for (int i = 0; i < ints.length; i++) {
            e.due("an int of " + ints[i], cell(2, ints[i]), dueOfInts[i]);
        }
        BurlPipes x = sheet(8, 8, 0, 64);
        for (int i = 0; i < 64; i++) {
            e.due("cell " + i, x.lay(0, i, i % 9 + 1), 1);
        }
        e.due("drawn", x.draw(0, 0, 0), 0);
        for (int i = 0; i < 64; i++) {
            e.due("cell " + i + " alone", x.grain(i % 8, i / 8, 0), i % 9 + 1);
        }
    }

    private static void runDraw(Edges e) {
        e.test(38, "THE BURL (as wide and high as it is) is read of a SHEET taken as of a lane, row by row, each"
                + " from the left to the right, from CELL f on:", SheetsEdges::rowByRow);
        e.test(38, "0 to 9 that GRAIN, no CRACK; 10 a CRACK, GRAIN 0: how many CRACKS there are then.",
                SheetsEdges::cells);
        e.test(38, "BAD: k, lane;", t -> {
            t.beside(0, 3, -1, (x, v) -> x.draw(v, 0, 0));
            t.beside(0, 2, -1, (x, v) -> x.draw(0, v, 0));
        });
        e.test(38, "-10 less the FAULT: NULL, CAST, then CELL by CELL INDEX;", SheetsEdges::drawFaults);
        e.test(38, "-100 less i: CELL f + i is none such;", SheetsEdges::noneSuch);
        e.test(38, "the first met: then nothing changed.", SheetsEdges::firstMet);
    }

    private static void firstMet(Edges e) {
        for (int at = 0; at < 4; at++) {
            BurlPipes x = sheet(2, 2, 0, 4 - at);
            x.lay(0, 3 - at, 11);
            e.due("a bad cell ahead of the end, from " + at, x.draw(0, 0, 0), -103 + at);
            e.due("behind it there is none, from " + at, x.draw(0, 0, 4 - at), -12);
        }
        e.refused(State.LADEN, -111, x -> x.draw(1, 1, 0));
        e.refused(State.LADEN, -106, x -> x.draw(1, 1, 5));
        e.refused(State.LADEN, -12, x -> x.draw(0, 0, 1), x -> x.draw(0, 0, 14));
    }

    private static void rowByRow(Edges e) {
        int[][] sizes = {{1, 1}, {8, 1}, {1, 8}, {3, 2}, {2, 3}, {8, 8}};
        for (int[] size : sizes) {
            int squares = size[0] * size[1];
            for (int lane = 0; lane < 3; lane++) {
                for (int f : new int[] {0, 64 - squares}) {
                    BurlPipes x = sheet(size[0], size[1], lane, 64);
                    for (int i = 0; i < squares; i++) {
                        x.lay(0, f + i, i % 9 + 1);
                    }
                    e.due("drawn from " + f, x.draw(0, lane, f), 0);
                    e.due("behind the last", x.draw(0, lane, 65 - squares), -12);
                    for (int i = 0; i < squares; i++) {
                        e.due("square " + i, x.grain(i % size[0], i / size[0], 0), i % 9 + 1);
                    }
                    e.due("as large as it was", x.count(3), squares);
                }
            }
        }
    }

    private static void cells(Edges e) {
        for (int lane = 0; lane < 3; lane++) {
            for (int v = 0; v <= 10; v++) {
                e.due("cell " + v, cell(lane, v), v);
            }
            e.due("cell 11", cell(lane, 11), -100);
            e.due("cell -1", cell(lane, -1), -100);
        }
        BurlPipes x = sheet(8, 8, 0, 64);
        x.crack(7, 7, true);
        x.grain(7, 7, 9);
        e.due("no cracks", x.draw(0, 0, 0), 0);
        e.due("none is left", x.count(2), 0);
        for (int i = 0; i < 64; i++) {
            x.lay(0, i, 10);
        }
        x.grain(7, 7, 9);
        e.due("all cracks", x.draw(0, 0, 0), 64);
        e.due("all are there", x.count(2), 64);
        e.due("a crack has grain 0", x.grain(7, 7, 0), 0);
    }

    private static void drawFaults(Edges e) {
        for (int sheet = 0; sheet < 4; sheet++) {
            int k = sheet;
            int lane = k % 3;
            e.refused(State.NEW, -11, x -> x.draw(k, 0, 0), x -> x.draw(k, 2, -1), x -> x.draw(k, 1, MAX));
            e.refused(State.FULL, -13, x -> x.draw(k, (lane + 1) % 3, 0), x -> x.draw(k, (lane + 2) % 3, -1),
                    x -> x.draw(k, (lane + 1) % 3, MAX));
            e.beside(State.FULL, 0, 0, -12, (x, v) -> x.draw(k, lane, v));
        }
        e.refused(State.FULL, -12, x -> x.draw(0, 0, 63), x -> x.draw(0, 0, 64), x -> x.draw(0, 0, -64),
                x -> x.draw(0, 0, MAX - 62), x -> x.draw(0, 0, MAX - 63));
        e.refused(State.LADEN, -12, x -> x.draw(2, 2, 0), x -> x.draw(2, 2, -1));
        e.refused(State.LADEN, -11, x -> x.draw(3, 0, 0));
        e.refused(State.LADEN, -13, x -> x.draw(2, 0, 0));
        BurlPipes x = sheet(2, 2, 0, 4);
        e.due("just enough cells", x.draw(0, 0, 0), 0);
        x.sheet(0, 0, 3);
        e.due("one too few", x.draw(0, 0, 0), -12);
    }

    private static void noneSuch(Edges e) {
        for (int i = 0; i < 64; i++) {
            BurlPipes x = sheet(8, 8, 2, 64);
            x.lay(0, i, i % 2 == 0 ? 11 : -1);
            e.due("cell " + i, x.draw(0, 2, 0), -100 - i);
            e.due("no act", x.count(9), 0);
            x.lay(0, 63, 11);
            e.due("the first of two", x.draw(0, 2, 0), -100 - i);
            x.burl(1, 1);
            e.due("it is the first from there", x.draw(0, 2, i), -100);
        }
    }

    private static void runCount(Edges e) {
        String words = "How many: 0 SHAPES, 1 PIPES, 2 CRACKS, 3 SQUARES of THE BURL, 4 LOTS that are OFF,";
        e.test(39, words, SheetsEdges::fullCounts);
        e.test(39, "5 CELLS of SHEET 0 (NONE: nothing),", t -> {
            t.due("nothing", new BurlPipes().count(5), -4);
            t.due("none", sheet(1, 1, 0, 0).count(5), 0);
            t.due("the most", sheet(1, 1, 2, 64).count(5), 64);
            BurlPipes x = new BurlPipes();
            x.sheet(1, 0, 9);
            t.due("another sheet", x.count(5), -4);
        });
        e.test(39, "6 WORLDS, 7 STOCK, 8 ORDERS, 9 ACTS that can be undone, 10 laws, 11 LIMIT,",
                SheetsEdges::moreCounts);
        e.test(39, "12 PIPES that are SOLD under a NAME that is not theirs.", SheetsEdges::soldUnderOthers);
        e.test(39, "BAD.", t -> t.beside(0, 12, -1, (x, v) -> x.count(v)));
    }

    private static void fullCounts(Edges e) {
        BurlPipes x = State.FULL.make();
        int[] due = {8, 12, 5, 64, 6};
        for (int what = 0; what < due.length; what++) {
            e.due("full, " + what, x.count(what), due[what]);
            e.due("new, " + what, new BurlPipes().count(what), what == 3 ? 16 : 0);
        }
        x.burl(1, 1);
        e.due("the least burl", x.count(3), 1);
    }

    private static void moreCounts(Edges e) {
        BurlPipes x = State.FULL.make();
        int[] due = {4, 12, 8, 8, 8, 0};
        for (int i = 0; i < due.length; i++) {
            e.due("full, " + (6 + i), x.count(6 + i), due[i]);
            e.due("new, " + (6 + i), new BurlPipes().count(6 + i), i == 5 ? 5 : 0);
        }
        x.end(0);
        Check.write(x, "limit 50;" + "bar0 1;".repeat(27));
        e.due("as many laws as a tape can tell", x.laws(), 28);
        e.due("laws", x.count(10), 28);
        e.due("limit", x.count(11), 50);
    }

    private static void soldUnderOthers(Edges e) {
        BurlPipes x = new BurlPipes();
        for (int p = 0; p < 12; p++) {
            x.pipe(0, 1, 1, 1, 0, 0, p % 3);
        }
        e.due("no laws", x.count(12), 0);
        Check.write(x, "least A 2;");
        x.laws();
        e.due("not sold", x.count(12), 0);
        Check.write(x, "least A 2;second A H;");
        x.laws();
        e.due("a third of them", x.count(12), 4);
        Check.write(x, "least A 2;least B 2;least C 2;second A B;second B C;second C H;least H 1;");
        x.laws();
        e.due("all", x.count(12), 12);
        Check.write(x, "least A 2;second A H;least H 2;second H B;");
        x.laws();
        e.due("by two names", x.count(12), 4);
    }
}
