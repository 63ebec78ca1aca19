/** Boundary cases of promises 1 to 8 and 13: a new object, the burl, its squares, shapes, what fits, acts. */
final class BurlEdges {
    private BurlEdges() { }

    static void run(Edges e) {
        runNew(e);
        runSquares(e);
        runShapes(e);
        runFits(e);
        runActs(e);
    }

    private static void runNew(Edges e) {
        e.test(1, "THE BURL is 4 by 4;", BurlEdges::newIs4By4);
        e.test(1, "no SHAPES, WORLDS, STOCK, ORDERS, PIPES, laws;", BurlEdges::newHasNothing);
        e.test(1, "SHEETS of nothing.", BurlEdges::newSheets);
        e.test(2, "THE BURL: a board of w by h SQUARES (1 to 8 each;", BurlEdges::sides);
        e.test(2, "THE BURL becomes a new one (no CRACKS, GRAIN 0; no WORLDS, ACTS): 1.", BurlEdges::burlIsNew);
        e.test(2, "BAD.", t -> {
            t.beside(1, 8, -1, (x, v) -> x.burl(v, 4));
            t.beside(1, 8, -1, (x, v) -> x.burl(4, v));
            t.beside(1, 8, -1, (x, v) -> x.burl(v, v));
        });
    }

    private static void newIs4By4(Edges e) {
        BurlPipes x = new BurlPipes();
        e.due("squares", x.count(3), 16);
        e.due("all of it", x.most(0, 0, 4, 4), 0);
        e.due("wider", x.most(0, 0, 5, 4), -1);
        e.due("higher", x.most(0, 0, 4, 5), -1);
        e.due("the last square", x.grain(3, 3, 0), 0);
        e.due("right of it", x.grain(4, 3, 0), -1);
        e.due("below it", x.grain(3, 4, 0), -1);
    }

    private static void newHasNothing(Edges e) {
        int[] none = {0, 1, 2, 4, 6, 7, 8, 9, 10, 12};
        for (int what : none) {
            e.due("count(" + what + ")", new BurlPipes().count(what), 0);
        }
        BurlPipes x = new BurlPipes();
        e.due("no shape", x.drop(), -4);
        e.due("no world", x.choose(0), -2);
        e.due("no stock", x.stored(0, 0), -1);
        e.due("no stock to age", x.age(), 0);
        e.due("no order", x.filled(10), -1);
        e.due("nothing to deliver", x.deliver(), 0);
        e.due("no pipe", x.told(0, 0), -100);
        e.due("no act", x.undo(), -4);
        e.due("no limit told", x.count(11), 5);
        e.due("no fault", x.fault(), 0);
        e.due("no tape", x.end(0), 0);
        for (int i = 0; i < 16; i++) {
            e.due("no crack", x.crack(i % 4, i / 4, false), 0);
            e.due("grain 0", x.grain(i % 4, i / 4, 0), 0);
        }
    }

    private static void newSheets(Edges e) {
        for (int sheet = 0; sheet < 4; sheet++) {
            int k = sheet;
            e.refused(State.NEW, -11, x -> x.lay(k, 0, 0), x -> x.draw(k, 0, 0), x -> x.draw(k, 1, 0),
                    x -> x.draw(k, 2, 0));
        }
        e.due("count(5)", new BurlPipes().count(5), -4);
    }

    private static void sides(Edges e) {
        BurlPipes x = new BurlPipes();
        for (int w = 1; w <= 8; w++) {
            for (int h = 1; h <= 8; h++) {
                e.due(w + " by " + h, x.burl(w, h), 1);
                e.due("squares of " + w + " by " + h, x.count(3), w * h);
                e.due("all of " + w + " by " + h, x.most(0, 0, w, h), 0);
                e.due("wider than " + w + " by " + h, x.most(0, 0, w + 1, h), -1);
                e.due("higher than " + w + " by " + h, x.most(0, 0, w, h + 1), -1);
            }
        }
    }

    private static void burlIsNew(Edges e) {
        BurlPipes x = State.FULL.make();
        e.due("the same size", x.burl(8, 8), 1);
        e.due("no acts", x.count(9), 0);
        e.due("nothing to undo", x.undo(), -4);
        e.due("no cracks", x.count(2), 0);
        e.due("no worlds", x.count(6), 0);
        e.due("no world", x.doubt(0, 0, 0, true), -1);
        for (int i = 0; i < 64; i++) {
            e.due("no crack", x.crack(i % 8, i / 8, false), 0);
            e.due("grain 0", x.grain(i % 8, i / 8, 0), 0);
        }
        int[] kept = {0, 1, 5, 7, 8};
        int[] due = {8, 12, 64, 12, 8};
        for (int i = 0; i < kept.length; i++) {
            e.due("count(" + kept[i] + ") stays", x.count(kept[i]), due[i]);
        }
        nothingIsLeft(e);
        BurlPipes y = State.FULL.make();
        y.burl(1, 1);
        y.burl(8, 8);
        e.due("after a small one", y.grain(7, 0, 0), 0);
        for (int i = 0; i < 4; i++) {
            y.world();
            e.due("a new world's crack", y.doubt(i, 7, 7 - i, false), 0);
        }
    }

    private static void nothingIsLeft(Edges e) {
        BurlPipes x = new BurlPipes();
        x.burl(8, 8);
        x.sheet(0, 0, 64);
        for (int i = 0; i < 64; i++) {
            x.lay(0, i, 9);
        }
        x.draw(0, 0, 0);
        for (int i = 0; i < 64; i++) {
            x.crack(i % 8, i / 8, true);
        }
        x.burl(8, 8);
        for (int i = 0; i < 64; i++) {
            e.due("no crack is left", x.crack(i % 8, i / 8, false), 0);
            e.due("no grain is left", x.grain(i % 8, i / 8, 0), 0);
        }
    }

    private static void runSquares(Edges e) {
        e.test(3, "x from 0 to the right, y from 0 down),", BurlEdges::axes);
        e.test(3, "each with a CRACK (1) or not (0),", BurlEdges::crackOrNot);
        e.test(3, "A SQUARE has a CRACK, or not: whether it had (1, 0).", BurlEdges::everySquareCracked);
        e.test(4, "and a GRAIN (0 to 9; 0 at first).", t -> {
            t.beside(0, 9, -1, (x, v) -> x.grain(0, 0, v));
            t.taken(State.NEW, 0, 9, 0, (x, v) -> x.grain(3, 3, v));
        });
        e.test(4, "A SQUARE's GRAIN becomes v: what it was.", BurlEdges::everyGrain);
        for (State state : State.values()) {
            e.test(3, "BAD.", t -> {
                t.beside(state, 0, state.wide - 1, -1, (x, v) -> x.crack(v, 0, true));
                t.beside(state, 0, state.high - 1, -1, (x, v) -> x.crack(0, v, true));
                t.beside(state, 0, state.wide - 1, -1, (x, v) -> x.crack(v, 0, false));
            });
            e.test(4, "BAD.", t -> {
                t.beside(state, 0, state.wide - 1, -1, (x, v) -> x.grain(v, 0, 5));
                t.beside(state, 0, state.high - 1, -1, (x, v) -> x.grain(0, v, 5));
            });
        }
    }

    private static void axes(Edges e) {
        BurlPipes x = new BurlPipes();
        x.burl(8, 1);
        e.due("the left square", x.crack(0, 0, true), 0);
        e.due("the right square", x.crack(7, 0, true), 0);
        e.due("right of it", x.crack(8, 0, true), -1);
        e.due("below", x.crack(0, 1, true), -1);
        e.due("left of it", x.crack(-1, 0, true), -1);
        x.shape(1, 1, 1, 0, false);
        e.due("the left half has the left crack", x.most(0, 0, 4, 1), 3);
        e.due("the middle has none", x.most(1, 0, 6, 1), 6);
        x.burl(1, 8);
        e.due("the lowest square", x.crack(0, 7, true), 0);
        e.due("below it", x.crack(0, 8, true), -1);
        e.due("right", x.crack(1, 0, true), -1);
        e.due("above", x.crack(0, -1, true), -1);
        e.due("the upper half has no crack", x.most(0, 0, 1, 4), 4);
        e.due("the lower half has one", x.most(0, 4, 1, 4), 3);
    }

    private static void crackOrNot(Edges e) {
        BurlPipes x = new BurlPipes();
        x.shape(1, 1, 1, 0, false);
        e.due("had none", x.crack(3, 0, true), 0);
        e.due("it does not fit", x.fits(3, 0, 1, 1, 0), 0);
        e.due("a crack where one is", x.crack(3, 0, true), 1);
        e.due("it is one still", x.count(2), 1);
        e.due("it goes", x.crack(3, 0, false), 1);
        e.due("it fits", x.fits(3, 0, 1, 1, 0), 1);
        e.due("none goes where none is", x.crack(3, 0, false), 0);
        e.due("none is left", x.count(2), 0);
    }

    private static void everySquareCracked(Edges e) {
        BurlPipes x = new BurlPipes();
        x.burl(8, 8);
        for (int i = 0; i < 64; i++) {
            e.due("square " + i + " had none", x.crack(i % 8, i / 8, true), 0);
            e.due("cracks", x.count(2), i + 1);
        }
        for (int i = 0; i < 64; i++) {
            e.due("square " + i + " had one", x.crack(i % 8, i / 8, false), 1);
            e.due("cracks", x.count(2), 63 - i);
        }
    }

    private static void everyGrain(Edges e) {
        BurlPipes x = new BurlPipes();
        x.burl(8, 8);
        for (int i = 0; i < 64; i++) {
            e.due("square " + i + " was 0", x.grain(i % 8, i / 8, 1 + i % 9), 0);
        }
        for (int i = 0; i < 64; i++) {
            e.due("square " + i, x.grain(i % 8, i / 8, 9), 1 + i % 9);
        }
        e.due("9 becomes 0", x.grain(7, 7, 0), 9);
        e.due("0 stays 0", x.grain(7, 7, 0), 0);
    }

    private static void runShapes(Edges e) {
        e.test(5, "SHAPES (8) are numbered as they come:", BurlEdges::eightShapes);
        e.test(5, "a WIDTH, a HEIGHT (1 to 8),", BurlEdges::shapeSides);
        e.test(5, "a PRICE (1 to 500),", t -> {
            t.beside(1, 500, -1, (x, v) -> x.shape(1, 1, v, 0, false));
            t.taken(State.NEW, 1, 500, 0, (x, v) -> x.shape(1, 1, v, 0, false));
            t.taken(State.NEW, 1, 500, 0, (x, v) -> x.shape(1, 1, v, 0, true) + x.most(0, 0, 1, 1) - v);
        });
        e.test(5, "a LEAST GRAIN (0 to 9);", BurlEdges::leastGrain);
        e.test(5, "one may be TURNED, or not.", BurlEdges::turned);
        e.test(5, "A SHAPE: its number.", t -> {
            t.due("behind three", State.LADEN.make().shape(1, 1, 1, 0, false), 3);
            BurlPipes x = State.LADEN.make();
            x.drop();
            t.due("where one was dropped", x.shape(1, 1, 1, 0, false), 2);
        });
        e.test(5, "BAD; FULL.", t -> {
            t.refused(State.FULL, -3, x -> x.shape(1, 1, 1, 0, false), x -> x.shape(8, 8, 500, 9, true));
            t.refused(State.LADEN, -1, x -> x.shape(0, 0, 0, -1, true), x -> x.shape(9, 9, 501, 10, false));
        });
        e.test(6, "The latest SHAPE goes: its number.", BurlEdges::allShapesGo);
        e.test(6, "NONE; STATE: an ORDER is for it.", BurlEdges::dropRefused);
    }

    private static void shapeSides(Edges e) {
        e.beside(1, 8, -1, (x, v) -> x.shape(v, 1, 1, 0, false));
        e.beside(1, 8, -1, (x, v) -> x.shape(1, v, 1, 0, true));
        e.taken(State.NEW, 1, 8, 0, (x, v) -> x.shape(v, 1, 1, 0, false));
        e.taken(State.NEW, 1, 8, 0, (x, v) -> x.shape(1, v, 1, 0, false));
        BurlPipes x = new BurlPipes();
        x.shape(8, 8, 1, 0, false);
        e.due("it does not fit on a small burl", x.open(), 0);
        x.burl(8, 8);
        e.due("it fits on the greatest", x.fits(0, 0, 8, 8, 0), 1);
    }

    private static void eightShapes(Edges e) {
        BurlPipes x = new BurlPipes();
        for (int s = 0; s < 8; s++) {
            e.due("shape " + s, x.shape(1, s + 1, 1 + s, 0, false), s);
            e.due("how many", x.count(0), s + 1);
        }
        e.due("a ninth", x.shape(1, 1, 1, 0, false), -3);
        x.burl(1, 8);
        for (int s = 0; s < 8; s++) {
            e.due("shape " + s + " is as it came", x.fits(0, 0, 1, s + 1, s), 1);
        }
        e.due("the last goes", x.drop(), 7);
        e.due("its number is used again", x.shape(1, 1, 1, 0, false), 7);
        e.due("a ninth again", x.shape(1, 1, 1, 0, false), -3);
    }

    private static void leastGrain(Edges e) {
        e.beside(0, 9, -1, (x, v) -> x.shape(1, 1, 1, v, false));
        e.taken(State.NEW, 0, 9, 0, (x, v) -> x.shape(1, 1, 1, v, false));
        for (int least = 0; least <= 9; least++) {
            BurlPipes x = new BurlPipes();
            x.shape(1, 1, 1, least, false);
            for (int grain = 0; grain <= 9; grain++) {
                x.grain(0, 0, grain);
                e.due("grain " + grain + " for " + least, x.fits(0, 0, 1, 1, 0), grain >= least ? 1 : 0);
            }
        }
    }

    private static void turned(Edges e) {
        BurlPipes x = new BurlPipes();
        x.burl(8, 8);
        x.shape(1, 8, 1, 0, false);
        x.shape(1, 8, 1, 0, true);
        e.due("as it is, not turned", x.fits(7, 0, 1, 8, 0), 1);
        e.due("the other way round, not turned", x.fits(0, 7, 8, 1, 0), 0);
        e.due("as it is, turned", x.fits(7, 0, 1, 8, 1), 1);
        e.due("the other way round, turned", x.fits(0, 7, 8, 1, 1), 1);
    }

    private static void allShapesGo(Edges e) {
        BurlPipes x = new BurlPipes();
        for (int s = 0; s < 8; s++) {
            x.shape(1, 1, 10 * s + 1, 0, false);
        }
        for (int s = 7; s >= 0; s--) {
            e.due("its price counts", x.most(0, 0, 1, 1), 10 * s + 1);
            e.due("shape " + s + " goes", x.drop(), s);
            e.due("it is no shape", x.fits(0, 0, 1, 1, s), -1);
        }
        e.due("its price is gone", x.most(0, 0, 1, 1), 0);
        x.burl(8, 8);
        int[][] sizes = {{1, 1}, {8, 1}, {1, 8}, {8, 8}, {2, 3}};
        for (int i = 0; i < sizes.length; i++) {
            int[] old = sizes[i];
            int[] now = sizes[(i + 1) % sizes.length];
            x.shape(old[0], old[1], 100, 0, false);
            e.due("it brings its price", x.most(0, 0, old[0], old[1]), 100);
            x.drop();
            x.shape(now[0], now[1], 1, 9, false);
            e.due("nothing of it is left in the one behind it", x.most(0, 0, old[0], old[1]), 0);
            e.due("nor in the sawing", x.cut(0, 0, old[0], old[1]), -5);
            x.drop();
        }
    }

    private static void dropRefused(Edges e) {
        e.refused(State.NEW, -4, BurlPipes::drop, BurlPipes::drop);
        e.refused(State.FULL, -2, BurlPipes::drop, BurlPipes::drop);
        BurlPipes x = State.LADEN.make();
        e.due("no order is for the last", x.drop(), 2);
        e.due("an order is for the next", x.drop(), -2);
        e.due("it stays", x.count(0), 2);
        BurlPipes y = new BurlPipes();
        y.shape(1, 1, 1, 0, false);
        y.order(0, 0, 1);
        e.due("an order for the only one", y.drop(), -2);
        y.shape(1, 1, 1, 0, false);
        e.due("none for the one behind it", y.drop(), 1);
        y.store(1, 1, 0, 0);
        y.deliver();
        e.due("when the order is gone", y.drop(), 0);
        e.due("none is left", y.drop(), -4);
    }

    private static void runFits(Edges e) {
        for (State state : new State[] {State.LADEN, State.FULL}) {
            e.test(7, "A BLOCK is a part of THE BURL, straight on all sides (x, y, w, h).", t -> noPart(t, state));
        }
        e.test(7, "It FITS a SHAPE, if it is of its WIDTH and HEIGHT (TURNED: or the other way round),",
                BurlEdges::sizeFits);
        e.test(7, "has no CRACK,", t -> everySquareOf(t, true));
        e.test(7, "and the least GRAIN in it is at least LEAST GRAIN.", t -> everySquareOf(t, false));
        e.test(7, "Whether a BLOCK FITS a SHAPE (1, 0).", t -> {
            BurlPipes x = State.LADEN.make();
            t.due("it fits", x.fits(2, 0, 2, 1, 0), 1);
            t.due("it does not", x.fits(2, 0, 2, 2, 0), 0);
            t.due("no grain", x.fits(2, 0, 2, 2, 1), 0);
        });
        e.test(7, "BAD: also it is no part of THE BURL.", t -> {
            for (State state : State.values()) {
                t.refused(state, -1, x -> x.fits(0, 0, state.wide + 1, 1, 0), x -> x.fits(0, 0, 1, state.high + 1, 0),
                        x -> x.fits(state.wide, 0, 1, 1, 0), x -> x.fits(0, state.high, 1, 1, 0));
            }
            t.refused(State.NEW, -1, x -> x.fits(0, 0, 1, 1, 0));
        });
        e.test(8, "OPEN SHAPES of THE BURL: those that some BLOCK FITS.", BurlEdges::openInACorner);
        e.test(8, "OPEN SHAPES (bits).", BurlEdges::openBits);
    }

    private static void openBits(Edges e) {
        e.due("no shapes", new BurlPipes().open(), 0);
        BurlPipes x = new BurlPipes();
        for (int s = 0; s < 8; s++) {
            x.shape(4, 4, 1, 0, false);
            e.due("all of " + (s + 1), x.open(), (2 << s) - 1);
        }
        x.grain(3, 3, 0);
        x.crack(3, 3, true);
        e.due("none of eight", x.open(), 0);
    }

    private static void noPart(Edges e, State state) {
        int w = state.wide;
        int h = state.high;
        e.beside(state, 0, w - 2, -1, (x, v) -> x.fits(v, 0, 2, 1, 0));
        e.beside(state, 0, h - 2, -1, (x, v) -> x.fits(0, v, 1, 2, 0));
        e.beside(state, 1, w, -1, (x, v) -> x.fits(0, 0, v, 1, 0));
        e.beside(state, 1, h, -1, (x, v) -> x.fits(0, 0, 1, v, 0));
        e.beside(state, 1, w - 1, -1, (x, v) -> x.fits(1, 0, v, 1, 0));
        e.beside(state, 1, h - 1, -1, (x, v) -> x.fits(0, 1, 1, v, 0));
        BurlPipes x = state.make();
        e.due("the last to the right", x.fits(w - 2, h - 1, 2, 1, 2), 0);
        e.due("the last below", x.fits(w - 1, h - 2, 1, 2, 2), 0);
        e.due("as wide as it", x.fits(0, h - 1, w, 1, 1), 0);
        e.due("as high as it", x.fits(w - 1, 0, 1, h, 1), 0);
    }

    private static void sizeFits(Edges e) {
        BurlPipes x = new BurlPipes();
        x.burl(5, 5);
        x.shape(2, 3, 1, 0, false);
        x.shape(2, 3, 1, 0, true);
        x.shape(3, 3, 1, 0, true);
        for (int w = 1; w <= 5; w++) {
            for (int h = 1; h <= 5; h++) {
                boolean is = w == 2 && h == 3;
                e.due(w + " by " + h, x.fits(0, 0, w, h, 0), is ? 1 : 0);
                e.due(w + " by " + h + ", turned", x.fits(0, 0, w, h, 1), is || w == 3 && h == 2 ? 1 : 0);
                e.due(w + " by " + h + ", square", x.fits(0, 0, w, h, 2), w == 3 && h == 3 ? 1 : 0);
            }
        }
    }

    // Each square of the burl in turn is spoilt: the block fits if the square is outside it.
    private static void everySquareOf(Edges e, boolean byCrack) {
        BurlPipes x = new BurlPipes();
        x.burl(5, 4);
        x.shape(3, 2, 1, 6, false);
        for (int i = 0; i < 20; i++) {
            x.grain(i % 5, i / 5, 6);
        }
        e.due("all of it just fine enough", x.fits(1, 1, 3, 2, 0), 1);
        for (int i = 0; i < 20; i++) {
            boolean within = i % 5 >= 1 && i % 5 <= 3 && i / 5 >= 1 && i / 5 <= 2;
            if (byCrack) {
                x.crack(i % 5, i / 5, true);
            } else {
                x.grain(i % 5, i / 5, 5);
            }
            e.due("with square " + i + " spoilt", x.fits(1, 1, 3, 2, 0), within ? 0 : 1);
            x.undo();
        }
        e.due("undone", x.fits(1, 1, 3, 2, 0), 1);
    }

    private static void openInACorner(Edges e) {
        BurlPipes row = new BurlPipes();
        row.burl(8, 1);
        row.shape(1, 8, 1, 0, true);
        row.shape(1, 8, 1, 0, false);
        row.shape(8, 1, 1, 0, false);
        e.due("a row fits one that is turned", row.open(), 5);
        row.burl(1, 8);
        e.due("a column", row.open(), 3);
        int[][] corners = {{0, 0}, {6, 0}, {0, 6}, {6, 6}};
        for (int[] at : corners) {
            BurlPipes x = new BurlPipes();
            x.burl(8, 8);
            x.shape(2, 2, 1, 9, false);
            x.shape(1, 2, 1, 9, true);
            x.shape(2, 2, 1, 8, false);
            for (int i = 0; i < 4; i++) {
                e.due("not yet", x.open() & 1, 0);
                x.grain(at[0] + i % 2, at[1] + i / 2, 9);
            }
            e.due("one block fits", x.open(), 7);
            x.grain(at[0], at[1], 8);
            e.due("a little less grain", x.open(), 6);
            x.crack(at[0] + 1, at[1] + 1, true);
            e.due("a crack", x.open(), 0);
        }
    }

    private static void runActs(Edges e) {
        e.test(13, "ACTS that can be undone (the latest 8):", BurlEdges::latestEight);
        e.test(13, "crack(), grain() that were not refused,", BurlEdges::refusedAreNoActs);
        e.test(13, "draw() that came (all of it one ACT);", BurlEdges::drawIsOneAct);
        e.test(13, "burl() leaves none.", BurlEdges::burlLeavesNone);
        e.test(13, "The latest ACT on THE BURL is undone: how many more can be.", BurlEdges::undoneOneByOne);
        e.test(13, "NONE.", t -> t.refused(State.NEW, -4, BurlPipes::undo, BurlPipes::undo));
    }

    private static void refusedAreNoActs(Edges e) {
        BurlPipes x = new BurlPipes();
        x.crack(4, 0, true);
        x.crack(0, -1, false);
        x.grain(0, 4, 1);
        x.grain(0, 0, 10);
        e.due("refused ones", x.undo(), -4);
        x.crack(3, 3, false);
        e.due("a crack() that changed nothing", x.count(9), 1);
        x.grain(3, 3, 0);
        e.due("a grain() that changed nothing", x.count(9), 2);
        x.grain(3, 3, 10);
        e.due("a refused one behind them", x.undo(), 1);
    }

    private static void burlLeavesNone(Edges e) {
        BurlPipes x = State.FULL.make();
        e.due("a burl refused", x.burl(9, 9), -1);
        e.due("leaves all", x.count(9), 8);
        x.burl(8, 8);
        e.due("none", x.count(9), 0);
        e.due("none to undo", x.undo(), -4);
        x.crack(7, 7, true);
        e.due("one again", x.undo(), 0);
        e.due("none behind it", x.undo(), -4);
    }

    private static void latestEight(Edges e) {
        for (int made : new int[] {1, 7, 8, 9, 15, 16, 17, 100}) {
            BurlPipes x = new BurlPipes();
            for (int i = 1; i <= made; i++) {
                x.grain(i % 4, 0, i % 10);
            }
            int kept = Math.min(8, made);
            e.due("acts of " + made, x.count(9), kept);
            for (int left = kept - 1; left >= 0; left--) {
                e.due("undone of " + made, x.undo(), left);
            }
            e.due("no more of " + made, x.undo(), -4);
            for (int at = 0; at < 4; at++) {
                int latest = 0;
                for (int i = 1; i <= made - kept; i++) {
                    latest = i % 4 == at ? i % 10 : latest;
                }
                e.due("grain " + at + " before the latest of " + made, x.grain(at, 0, 0), latest);
            }
        }
    }

    private static void drawIsOneAct(Edges e) {
        BurlPipes x = State.FULL.make();
        e.due("eight acts", x.count(9), 8);
        e.due("a draw() that fails", x.draw(0, 0, 1), -12);
        e.due("is none", x.undo(), 7);
        e.due("a draw() that comes", x.draw(0, 0, 0), 0);
        e.due("is one", x.count(9), 8);
        e.due("undone", x.undo(), 7);
        e.due("all cracks are back", x.count(2), 5);
        for (int i = 0; i < 5; i++) {
            e.due("a crack is back", x.crack(i, 7 - i, true), 1);
        }
        e.due("grain is back", x.grain(7, 0, 0), 9);
    }

    private static void undoneOneByOne(Edges e) {
        BurlPipes x = new BurlPipes();
        x.crack(0, 0, true);
        x.grain(0, 0, 9);
        x.crack(3, 3, true);
        x.crack(0, 0, false);
        e.due("the crack comes back", x.undo(), 3);
        e.due("both", x.count(2), 2);
        e.due("the latest crack goes", x.undo(), 2);
        e.due("one", x.count(2), 1);
        e.due("the grain goes", x.undo(), 1);
        e.due("a new act", x.grain(0, 0, 4), 0);
        e.due("two can be undone", x.count(9), 2);
        e.due("the new one", x.undo(), 1);
        e.due("the first one", x.undo(), 0);
        e.due("none", x.undo(), -4);
        e.due("no crack", x.count(2), 0);
    }
}
