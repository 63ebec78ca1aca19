/** Boundary cases of promises 9 to 12 and 23: what a block brings at most, its sawing, what cracks and prices do. */
final class SawEdges {
    private SawEdges() { }

    static void run(Edges e) {
        runMost(e);
        runCut(e);
        runSawn(e);
        runCosts(e);
        runGains(e);
    }

    private static BurlPipes board(int w, int h) {
        BurlPipes x = new BurlPipes();
        x.burl(w, h);
        return x;
    }

    private static void runMost(Edges e) {
        e.test(9, "SAWING a BLOCK: it is a pipe of a SHAPE that it FITS (its PRICE),", SawEdges::pipeOfAShape);
        e.test(9, "or waste (0),", t -> {
            BurlPipes x = board(8, 8);
            t.due("without shapes", x.most(0, 0, 8, 8), 0);
            x.shape(8, 8, 500, 1, true);
            t.due("without grain", x.most(0, 0, 8, 8), 0);
            t.due("a part without a shape", x.most(0, 0, 8, 7), 0);
        });
        e.test(9, "or it is cut straight through into two, each SAWN on.", SawEdges::straightThrough);
        e.test(9, "MOST: the greatest sum that can be had.", SawEdges::greatestSum);
        e.test(9, "MOST of a BLOCK. BAD.", t -> noBlock(t, (x, at) -> x.most(at[0], at[1], at[2], at[3])));
    }

    private static void pipeOfAShape(Edges e) {
        BurlPipes x = board(1, 1);
        e.due("no shape", x.most(0, 0, 1, 1), 0);
        x.shape(1, 1, 1, 0, false);
        e.due("the least price", x.most(0, 0, 1, 1), 1);
        x.shape(1, 1, 500, 0, false);
        e.due("the greatest price", x.most(0, 0, 1, 1), 500);
        x.shape(1, 1, 499, 0, false);
        e.due("the dearest of three", x.most(0, 0, 1, 1), 500);
        x.crack(0, 0, true);
        e.due("it fits none", x.most(0, 0, 1, 1), 0);
        everyShapeTurned(e);
    }

    private static void everyShapeTurned(Edges e) {
        for (int turned = 0; turned < 8; turned++) {
            BurlPipes x = board(1, 8);
            for (int s = 0; s < 8; s++) {
                x.shape(8, 1, 10 + s, 0, s == turned);
            }
            e.due("shape " + turned + " alone is turned", x.most(0, 0, 1, 8), 10 + turned);
            e.due("and is what is done", x.cut(0, 0, 1, 8), turned);
        }
    }

    private static void straightThrough(Edges e) {
        BurlPipes x = board(3, 3);
        x.shape(2, 1, 10, 0, true);
        e.due("four round the middle, by cuts through", x.most(0, 0, 3, 3), 40);
        x.crack(1, 1, true);
        e.due("four round the middle can not be cut", x.most(0, 0, 3, 3), 30);
        BurlPipes y = board(8, 1);
        y.shape(1, 1, 1, 0, false);
        e.due("cut down to squares", y.most(0, 0, 8, 1), 8);
        y.burl(1, 8);
        e.due("cut across to squares", y.most(0, 0, 1, 8), 8);
        BurlPipes z = board(8, 8);
        z.shape(7, 8, 5, 0, false);
        z.shape(8, 1, 6, 0, false);
        z.shape(1, 8, 44, 0, false);
        e.due("one at the left, seven at the right or all across", z.most(0, 0, 8, 8), 352);
        e.due("seven across", z.most(0, 0, 8, 7), 42);
        e.due("seven down", z.most(0, 0, 7, 8), 308);
    }

    private static void greatestSum(Edges e) {
        BurlPipes x = board(8, 8);
        x.shape(1, 1, 500, 0, false);
        e.due("the greatest there is", x.most(0, 0, 8, 8), 32000);
        e.due("of a quarter at the lower right", x.most(4, 4, 4, 4), 8000);
        e.due("of the last square", x.most(7, 7, 1, 1), 500);
        for (int i = 0; i < 64; i++) {
            x.crack(i % 8, i / 8, true);
        }
        e.due("of cracks alone", x.most(0, 0, 8, 8), 0);
        BurlPipes y = board(5, 5);
        y.shape(2, 2, 9, 0, false);
        y.shape(3, 3, 25, 0, false);
        e.due("the great one and three small ones", y.most(0, 0, 5, 5), 25 + 3 * 9);
        e.due("four small ones", y.most(0, 0, 4, 4), 36);
        e.due("all of it again", y.most(0, 0, 5, 5), 52);
    }

    /** Tells a call of a block. */
    private interface OfBlock {
        int on(BurlPipes x, int[] at);
    }

    private static void noBlock(Edges e, OfBlock call) {
        for (State state : State.values()) {
            int w = state.wide;
            int h = state.high;
            e.beside(state, 0, w - 1, -1, (x, v) -> call.on(x, new int[] {v, 0, 1, 1}));
            e.beside(state, 0, h - 1, -1, (x, v) -> call.on(x, new int[] {0, v, 1, 1}));
            e.beside(state, 0, 1, -1, (x, v) -> call.on(x, new int[] {v, 0, w - 1, 1}));
            e.beside(state, 0, 1, -1, (x, v) -> call.on(x, new int[] {0, v, 1, h - 1}));
            e.beside(state, 1, w, -1, (x, v) -> call.on(x, new int[] {0, 0, v, h}));
            e.beside(state, 1, h, -1, (x, v) -> call.on(x, new int[] {0, 0, w, v}));
            e.beside(state, 1, 1, -1, (x, v) -> call.on(x, new int[] {w - 1, h - 1, v, 1}));
            e.beside(state, 1, 1, -1, (x, v) -> call.on(x, new int[] {w - 1, h - 1, 1, v}));
            int[][] good = {{0, 0, 1, 1}, {w - 1, h - 1, 1, 1}, {0, 0, w, h}, {1, 1, w - 1, h - 1}, {0, 0, w, 1},
                {0, 0, 1, h}, {w - 1, 0, 1, h}, {0, h - 1, w, 1}};
            for (int[] at : good) {
                e.holds("a block of " + state, call.on(state.make(), at) != -1);
            }
        }
    }

    private static void runCut(Edges e) {
        e.test(10, "THE SAWING: for a BLOCK with MOST: a SHAPE that has it (the least number),", SawEdges::leastNumber);
        e.test(10, "else waste, if MOST is 0,", SawEdges::wasteIfNothing);
        e.test(10, "else the first cut that has it: down (at x 1, 2, .. from its left side), then across (at y 1,"
                + " 2, ..);",
                SawEdges::firstCut);
        e.test(10, "so for the left, then the right (upper, then lower) part.", SawEdges::partsAreSawnAlike);
        e.test(10, "What is done with a BLOCK by THE SAWING of it: its SHAPE; -5: waste; 100 and k: cut down,"
                + " k SQUARES to the left; 200 and k: cut across, k above.", SawEdges::allCuts);
        e.test(10, "BAD.", t -> noBlock(t, (x, at) -> x.cut(at[0], at[1], at[2], at[3])));
    }

    private static void leastNumber(Edges e) {
        BurlPipes x = board(2, 1);
        x.shape(1, 1, 5, 0, false);
        x.shape(2, 1, 9, 0, false);
        e.due("a shape that has one less", x.cut(0, 0, 2, 1), 101);
        x.shape(2, 1, 10, 1, false);
        e.due("one that does not fit", x.cut(0, 0, 2, 1), 101);
        x.shape(2, 1, 10, 0, false);
        e.due("one as good as the cut", x.cut(0, 0, 2, 1), 3);
        x.shape(1, 2, 10, 0, true);
        e.due("another as good behind it", x.cut(0, 0, 2, 1), 3);
        x.shape(2, 1, 11, 0, false);
        e.due("a better one behind it", x.cut(0, 0, 2, 1), 5);
        BurlPipes y = State.FULL.make();
        y.burl(8, 8);
        e.due("shape 0 of a square", y.cut(7, 7, 1, 1), 0);
    }

    private static void wasteIfNothing(Edges e) {
        BurlPipes x = board(8, 8);
        e.due("all of it", x.cut(0, 0, 8, 8), -5);
        e.due("a square", x.cut(7, 7, 1, 1), -5);
        x.shape(2, 2, 1, 0, false);
        e.due("too narrow", x.cut(0, 0, 1, 8), -5);
        e.due("too low", x.cut(0, 0, 8, 1), -5);
        e.due("just wide enough", x.cut(0, 0, 2, 3), 201);
    }

    private static void firstCut(Edges e) {
        BurlPipes x = board(3, 3);
        x.shape(1, 1, 1, 0, false);
        e.due("all cuts have it: down at 1", x.cut(0, 0, 3, 3), 101);
        e.due("no cut down can be: across at 1", x.cut(0, 0, 1, 3), 201);
        x.shape(1, 3, 9, 0, false);
        e.due("down at 1", x.cut(0, 0, 3, 3), 101);
        x.drop();
        x.shape(2, 3, 9, 0, false);
        e.due("down at 1, the right part the dear one", x.cut(0, 0, 3, 3), 101);
        x.crack(2, 1, true);
        e.due("down at 2, the left part the dear one", x.cut(0, 0, 3, 3), 102);
        x.drop();
        x.shape(3, 2, 9, 0, false);
        e.due("the dear one is gone by the crack: down at 1", x.cut(0, 0, 3, 3), 101);
        x.undo();
        e.due("across at 1, the lower part the dear one", x.cut(0, 0, 3, 3), 201);
        x.crack(1, 2, true);
        e.due("across at 2, the upper part the dear one", x.cut(0, 0, 3, 3), 202);
        BurlPipes y = board(2, 2);
        y.shape(1, 2, 7, 0, false);
        y.shape(2, 1, 7, 0, false);
        e.due("down goes before across", y.cut(0, 0, 2, 2), 101);
        y.drop();
        y.shape(2, 1, 8, 0, false);
        e.due("but not if across has more", y.cut(0, 0, 2, 2), 201);
    }

    // Two ways to saw have the same sum and differ in pipes and waste: the first cut decides, in each part again.
    private static void partsAreSawnAlike(Edges e) {
        BurlPipes x = board(4, 2);
        x.shape(2, 2, 8, 0, false);
        x.shape(2, 1, 4, 0, false);
        x.shape(1, 2, 4, 0, false);
        e.due("down at 1", x.cut(0, 0, 4, 2), 101);
        e.due("the left part", x.cut(0, 0, 1, 2), 2);
        e.due("the right part: down at 1", x.cut(1, 0, 3, 2), 101);
        e.due("its right part is one pipe", x.cut(2, 0, 2, 2), 0);
        e.due("pipes", x.sawn(1), 3);
        e.due("cuts", x.sawn(2), 2);
        e.due("of shape 0", x.sawn(10), 1);
        e.due("of shape 1", x.sawn(11), 0);
        e.due("of shape 2", x.sawn(12), 2);
        BurlPipes y = board(1, 4);
        y.shape(1, 2, 8, 0, false);
        y.shape(1, 1, 4, 0, false);
        e.due("across at 1", y.cut(0, 0, 1, 4), 201);
        e.due("the lower part: across at 1", y.cut(0, 1, 1, 3), 201);
        e.due("its lower part is one pipe", y.cut(0, 2, 1, 2), 0);
        e.due("of the upper squares", y.sawn(11), 2);
        e.due("of the lower pipe", y.sawn(10), 1);
    }

    private static void allCuts(Edges e) {
        for (int k = 1; k <= 7; k++) {
            e.due("down with " + k + " to the left", onlyCut(k, true), 100 + k);
            e.due("across with " + k + " above", onlyCut(k, false), 200 + k);
        }
        BurlPipes x = board(8, 8);
        for (int s = 0; s < 8; s++) {
            x.shape(8 - s, 8, 9, 0, false);
            e.due("shape " + s, x.cut(0, 0, 8 - s, 8), s);
        }
        e.due("waste", x.cut(0, 0, 8, 7), -5);
    }

    // A row of eight: the longer part fits once alone, the shorter one only where there is grain.
    private static int onlyCut(int k, boolean down) {
        BurlPipes x = down ? board(8, 1) : board(1, 8);
        int left = k <= 4 ? 9 : 0;
        x.shape(down ? k : 1, down ? 1 : k, 5, left, false);
        x.shape(down ? 8 - k : 1, down ? 1 : 8 - k, 7, 9 - left, false);
        for (int i = 0; i < 8; i++) {
            x.grain(down ? i : 0, down ? 0 : i, i < k ? left : 9 - left);
        }
        return x.cut(0, 0, down ? 8 : 1, down ? 1 : 8);
    }

    private static void runSawn(Edges e) {
        e.test(11, "THE SAWING of all THE BURL: 0 MOST, 1 pipes, 2 cuts, 3 SQUARES of waste,", SawEdges::nothingOrAll);
        e.test(11, "10 and s: pipes of SHAPE s.", SawEdges::pipesOfEachShape);
        e.test(11, "BAD.", t -> {
            for (State state : State.values()) {
                int top = 10 + state.shapes();
                t.refused(state, -1, x -> x.sawn(-1), x -> x.sawn(4), x -> x.sawn(9), x -> x.sawn(top),
                        x -> x.sawn(18), x -> x.sawn(Integer.MIN_VALUE), x -> x.sawn(Integer.MAX_VALUE));
            }
        });
    }

    private static void pipesOfEachShape(Edges e) {
        BurlPipes x = board(8, 1);
        for (int s = 0; s < 8; s++) {
            e.due("no shape " + s, x.sawn(10 + s), -1);
            x.shape(1, 1, 1, s, false);
        }
        for (int s = 0; s < 8; s++) {
            e.due("shape " + s, x.sawn(10 + s), s == 0 ? 8 : 0);
        }
        e.due("there is no shape 8", x.sawn(18), -1);
        BurlPipes y = board(8, 1);
        for (int s = 0; s < 8; s++) {
            y.shape(1, 1, s + 1, s + 1, false);
            y.grain(s, 0, s + 1);
        }
        for (int s = 0; s < 8; s++) {
            e.due("one of shape " + s, y.sawn(10 + s), 1);
        }
    }

    private static void nothingOrAll(Edges e) {
        int[][] due = {{0, 0, 0, 1}, {1, 1, 0, 0}, {0, 0, 0, 64}, {64, 64, 63, 0}};
        for (int i = 0; i < due.length; i++) {
            int side = i < 2 ? 1 : 8;
            BurlPipes x = board(side, side);
            if (i % 2 == 1) {
                x.shape(1, 1, 1, 0, false);
            }
            for (int what = 0; what < 4; what++) {
                e.due("sawn(" + what + ") of case " + i, x.sawn(what), due[i][what]);
                e.due("asked again", x.sawn(what), due[i][what]);
            }
        }
        BurlPipes y = board(8, 8);
        y.shape(8, 8, 500, 0, false);
        e.due("one pipe", y.sawn(1), 1);
        e.due("no cut", y.sawn(2), 0);
        y.shape(7, 7, 300, 0, false);
        y.crack(7, 0, true);
        e.due("a smaller one", y.sawn(0), 300);
        e.due("two cuts", y.sawn(2), 2);
        e.due("waste", y.sawn(3), 15);
    }

    private static void runCosts(Edges e) {
        e.test(12, "How much less MOST of THE BURL were with a CRACK in a SQUARE (0, where it has one).",
                SawEdges::crackCosts);
        e.test(12, "BAD.", t -> {
            for (State state : State.values()) {
                t.beside(state, 0, state.wide - 1, -1, (x, v) -> x.costs(v, 0));
                t.beside(state, 0, state.high - 1, -1, (x, v) -> x.costs(0, v));
                t.holds("the last square", state.make().costs(state.wide - 1, state.high - 1) >= 0);
                t.unchanged(state, x -> x.costs(state.wide - 1, 0));
            }
        });
    }

    private static void crackCosts(Edges e) {
        BurlPipes x = board(8, 8);
        x.shape(8, 8, 500, 0, false);
        x.shape(1, 1, 7, 0, false);
        for (int i = 0; i < 64; i += 9) {
            e.due("square " + i, x.costs(i % 8, i / 8), 500 - 63 * 7);
        }
        e.due("nothing cracked by it", x.count(2), 0);
        e.due("no act of it", x.count(9), 0);
        x.crack(7, 7, true);
        e.due("where it has one", x.costs(7, 7), 0);
        e.due("beside it", x.costs(6, 7), 7);
        BurlPipes y = board(1, 1);
        e.due("without shapes", y.costs(0, 0), 0);
        y.shape(1, 1, 500, 0, false);
        e.due("all there is", y.costs(0, 0), 500);
    }

    private static void runGains(Edges e) {
        e.test(23, "How much more MOST of THE BURL were with a SHAPE's PRICE p (1 to 500) in place of its own"
                + " (below 0: less).", SawEdges::gains);
        e.test(23, "BAD -1000000.", t -> {
            for (State state : State.values()) {
                t.beside(state, 0, state.shapes() - 1, -1000000, (x, v) -> x.gains(v, 500));
            }
            t.beside(1, 500, -1000000, (x, v) -> x.gains(0, v));
            t.unchanged(State.LADEN, x -> x.gains(2, 500));
            t.unchanged(State.FULL, x -> x.gains(7, 1));
        });
    }

    private static void gains(Edges e) {
        BurlPipes x = board(8, 8);
        x.shape(1, 1, 1, 0, false);
        e.due("the most", x.gains(0, 500), 64 * 499);
        e.due("its own", x.gains(0, 1), 0);
        e.due("it has its own still", x.most(0, 0, 8, 8), 64);
        BurlPipes y = board(8, 8);
        y.shape(1, 1, 500, 0, false);
        e.due("the least", y.gains(0, 1), -64 * 499);
        y.shape(8, 8, 1, 0, false);
        e.due("of one that is not sawn", y.gains(1, 500), 0);
        BurlPipes z = board(2, 1);
        z.shape(1, 1, 10, 0, false);
        z.shape(2, 1, 1, 0, false);
        e.due("as good as the cut", z.gains(1, 20), 0);
        e.due("just better", z.gains(1, 21), 1);
        e.due("down to the least price", z.gains(0, 1), -18);
    }
}
