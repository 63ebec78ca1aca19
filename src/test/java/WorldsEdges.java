/** Boundary cases of promises 14 to 16: worlds of cracks not seen yet. */
final class WorldsEdges {
    private WorldsEdges() { }

    static void run(Edges e) {
        e.test(14, "WORLDS (4)", WorldsEdges::fourWorlds);
        e.test(14, "have CRACKS of their own (SQUARES), besides those that THE BURL has.", WorldsEdges::ownCracks);
        e.test(14, "A WORLD without CRACKS: its number.", WorldsEdges::newWorld);
        e.test(14, "FULL.", t -> t.refused(State.FULL, -3, BurlPipes::world, BurlPipes::world));
        e.test(15, "A SQUARE has a CRACK in a WORLD, or not: whether it had (1, 0).", WorldsEdges::everySquare);
        e.test(15, "BAD.", WorldsEdges::doubtRefused);
        e.test(15, "(burl() leaves no WORLDS.)", WorldsEdges::burlLeavesNone);
        e.test(16, "LATE: the sum over all WORLDS of MOST of THE BURL with the CRACKS of both.", WorldsEdges::late);
        e.test(16, "EARLY: as MOST, but that a pipe of a SHAPE of a BLOCK brings its PRICE for each WORLD in which the"
                + " BLOCK FITS it (with the CRACKS of both), and 0 in others: the greatest sum that can be had by"
                + " one way"
                + " to saw for all.", WorldsEdges::early);
        e.test(16, "0 LATE, 1 EARLY, 2 LATE less EARLY,", WorldsEdges::lateLessEarly);
        e.test(16, "3 what EARLY does with all of THE BURL (as cut(): a SHAPE that brings it, waste, if it is 0,"
                + " else the first cut that does),", WorldsEdges::earlyDeed);
        e.test(16, "4 the least MOST of any WORLD, 5 the greatest.", WorldsEdges::leastAndGreatest);
        e.test(16, "BAD; STATE: there are no WORLDS.", t -> {
            t.beside(0, 5, -1, (x, v) -> x.choose(v));
            t.refused(State.NEW, -2, x -> x.choose(0), x -> x.choose(1), x -> x.choose(2), x -> x.choose(3),
                    x -> x.choose(4), x -> x.choose(5));
        });
    }

    private static void fourWorlds(Edges e) {
        BurlPipes x = new BurlPipes();
        for (int i = 0; i < 4; i++) {
            e.due("how many", x.count(6), i);
            e.due("world " + i, x.world(), i);
        }
        e.due("a fifth", x.world(), -3);
        e.due("four", x.count(6), 4);
    }

    private static BurlPipes worlds(int w, int h, int howMany) {
        BurlPipes x = new BurlPipes();
        x.burl(w, h);
        for (int i = 0; i < howMany; i++) {
            x.world();
        }
        return x;
    }

    private static void ownCracks(Edges e) {
        BurlPipes x = worlds(2, 2, 2);
        x.shape(1, 1, 1, 0, false);
        x.crack(0, 0, true);
        e.due("the burl's crack is in no world", x.doubt(0, 0, 0, true), 0);
        e.due("a crack in both is one", x.choose(4), 3);
        x.doubt(1, 1, 1, true);
        e.due("a crack of a world beside the burl's", x.choose(4), 2);
        e.due("the other world has not got it", x.choose(5), 3);
        e.due("nor has the burl", x.count(2), 1);
        e.due("most of the burl does not see it", x.most(0, 0, 2, 2), 3);
        x.crack(0, 0, false);
        e.due("the world's crack stays when the burl's goes", x.doubt(0, 0, 0, false), 1);
    }

    private static void newWorld(Edges e) {
        e.due("behind two", State.LADEN.make().world(), 2);
        BurlPipes x = State.FULL.make();
        x.burl(8, 8);
        for (int i = 0; i < 4; i++) {
            e.due("numbered from 0 again", x.world(), i);
        }
        for (int i = 0; i < 256; i++) {
            e.due("no crack at " + i, x.doubt(i / 64, i % 8, i / 8 % 8, false), 0);
        }
    }

    private static void everySquare(Edges e) {
        BurlPipes x = worlds(8, 8, 4);
        for (int i = 0; i < 64; i++) {
            e.due("square " + i + " had none", x.doubt(3, i % 8, i / 8, true), 0);
            e.due("nor in the world ahead", x.doubt(2, i % 8, i / 8, false), 0);
        }
        for (int i = 0; i < 64; i++) {
            e.due("square " + i + " had one", x.doubt(3, i % 8, i / 8, true), 1);
            e.due("taken away", x.doubt(3, i % 8, i / 8, false), 1);
            e.due("it has none", x.doubt(3, i % 8, i / 8, false), 0);
        }
        e.due("no acts of them", x.count(9), 0);
    }

    private static void doubtRefused(Edges e) {
        for (State state : State.values()) {
            e.beside(state, 0, state.worlds() - 1, -1, (x, v) -> x.doubt(v, 0, 0, true));
            e.beside(state, 0, state.wide - 1, -1, (x, v) -> x.doubt(0, v, 0, true));
            e.beside(state, 0, state.high - 1, -1, (x, v) -> x.doubt(0, 0, v, true));
            e.beside(state, 0, state.wide - 1, -1, (x, v) -> x.doubt(0, v, 0, false));
        }
        e.refused(State.NEW, -1, x -> x.doubt(0, 0, 0, true), x -> x.doubt(0, 0, 0, false));
        e.due("the last square of the last world", State.FULL.make().doubt(3, 7, 7, true), 0);
    }

    private static void burlLeavesNone(Edges e) {
        BurlPipes x = State.FULL.make();
        e.due("a burl refused", x.burl(0, 8), -1);
        e.due("leaves them", x.count(6), 4);
        x.burl(8, 8);
        e.due("none", x.count(6), 0);
        for (int i = 0; i < 4; i++) {
            e.due("no world " + i, x.doubt(i, 0, 0, true), -1);
        }
        e.due("nothing to choose", x.choose(0), -2);
    }

    private static void late(Edges e) {
        BurlPipes x = worlds(8, 8, 1);
        e.due("without shapes", x.choose(0), 0);
        x.shape(1, 1, 500, 0, false);
        e.due("one world without cracks", x.choose(0), 32000);
        for (int i = 2; i <= 4; i++) {
            x.world();
            e.due(i + " worlds", x.choose(0), 32000 * i);
        }
        x.doubt(3, 7, 7, true);
        e.due("a crack in the last", x.choose(0), 4 * 32000 - 500);
        x.crack(7, 7, true);
        e.due("in all of them by the burl", x.choose(0), 4 * 31500);
    }

    private static void early(Edges e) {
        BurlPipes x = worlds(2, 1, 4);
        e.due("without shapes", x.choose(1), 0);
        x.shape(2, 1, 5, 0, false);
        for (int broken = 1; broken <= 4; broken++) {
            x.doubt(broken - 1, 0, 0, true);
            e.due("fits in all but " + broken, x.choose(1), 5 * (4 - broken));
        }
        x.shape(1, 1, 1, 0, false);
        e.due("the right square fits in all of them", x.choose(1), 4);
        x.crack(1, 0, true);
        e.due("until the burl has a crack there", x.choose(1), 0);
        BurlPipes y = worlds(8, 8, 4);
        y.shape(1, 1, 500, 0, false);
        e.due("the greatest there is", y.choose(1), 128000);
        y.drop();
        y.shape(1, 1, 500, 1, false);
        e.due("too little grain in every world", y.choose(1), 0);
        y.grain(7, 7, 1);
        e.due("one square with grain", y.choose(1), 2000);
    }

    private static void lateLessEarly(Edges e) {
        BurlPipes x = worlds(3, 1, 2);
        e.due("without shapes", x.choose(2), 0);
        x.shape(2, 1, 10, 0, false);
        e.due("without cracks", x.choose(2), 0);
        x.doubt(0, 0, 0, true);
        e.due("late with one crack", x.choose(0), 20);
        e.due("early is as good", x.choose(2), 0);
        x.doubt(1, 2, 0, true);
        e.due("late with two", x.choose(0), 20);
        e.due("early can not have both", x.choose(1), 10);
        e.due("less", x.choose(2), 10);
        BurlPipes y = worlds(3, 3, 1);
        y.shape(2, 1, 10, 0, true);
        y.doubt(0, 1, 1, true);
        e.due("of one world alone there is nothing to choose", y.choose(2), 0);
    }

    private static void earlyDeed(Edges e) {
        BurlPipes x = worlds(2, 1, 2);
        e.due("waste without shapes", x.choose(3), -5);
        x.shape(2, 1, 10, 0, false);
        x.doubt(0, 0, 0, true);
        x.doubt(1, 0, 0, true);
        e.due("waste, though a shape is as large", x.choose(3), -5);
        x.doubt(1, 0, 0, false);
        e.due("a shape that fits in one of two", x.choose(3), 0);
        x.shape(1, 1, 4, 0, false);
        e.due("cut: 8 and 4 above 10", x.choose(3), 101);
        x.drop();
        x.shape(1, 1, 3, 0, false);
        e.due("the shape: 10 above 6 and 3", x.choose(3), 0);
        x.shape(2, 1, 10, 0, false);
        e.due("the least number of two that bring it", x.choose(3), 0);
        x.shape(2, 1, 11, 0, false);
        e.due("the one that brings more", x.choose(3), 3);
        BurlPipes y = worlds(1, 8, 4);
        y.shape(1, 1, 1, 9, false);
        y.shape(1, 7, 9, 0, false);
        y.grain(0, 7, 9);
        e.due("the last cut across", y.choose(3), 207);
        BurlPipes z = worlds(8, 1, 4);
        z.shape(1, 1, 1, 9, false);
        z.shape(7, 1, 9, 0, false);
        z.grain(7, 0, 9);
        e.due("the last cut down", z.choose(3), 107);
    }

    private static void leastAndGreatest(Edges e) {
        for (int odd = 0; odd < 4; odd++) {
            BurlPipes x = worlds(2, 1, 4);
            x.shape(1, 1, 1, 0, false);
            e.due("all alike: least", x.choose(4), 2);
            e.due("all alike: greatest", x.choose(5), 2);
            x.doubt(odd, 0, 0, true);
            e.due("the least is world " + odd, x.choose(4), 1);
            e.due("the greatest is another", x.choose(5), 2);
            for (int i = 0; i < 4; i++) {
                x.doubt(i, 0, 0, i != odd);
            }
            e.due("the greatest is world " + odd, x.choose(5), 2);
            e.due("the least is another", x.choose(4), 1);
            x.crack(0, 0, true);
            x.crack(1, 0, true);
            e.due("nothing in any: least", x.choose(4), 0);
            e.due("nothing in any: greatest", x.choose(5), 0);
        }
    }
}
