/** Promises 14 to 16: worlds of cracks not seen yet. */
public final class WorldsTest {
    private static final Check C = new Check("WorldsTest");

    public static void main(String[] args) {
        world();
        doubt();
        choose();
        earlyLosesToLate();
        earlyWaste();
        C.end();
    }

    private static void world() {
        BurlPipes x = new BurlPipes();
        for (int i = 0; i < 4; i++) {
            C.due("14: number", x.world(), i);
            x.doubt(i, 0, 0, true);
        }
        C.due("14: full", x.world(), -3);
        C.due("14: four", x.count(6), 4);
        x.burl(4, 4);
        C.due("14: from 0 on after a new burl", x.world(), 0);
        C.due("14: without cracks", x.doubt(0, 0, 0, true), 0);
    }

    private static void doubt() {
        BurlPipes x = new BurlPipes();
        C.due("15: no world", x.doubt(0, 0, 0, true), -1);
        x.world();
        x.world();
        C.due("15: had none", x.doubt(1, 3, 3, true), 0);
        C.due("15: had one", x.doubt(1, 3, 3, true), 1);
        C.due("15: the other world has none", x.doubt(0, 3, 3, true), 0);
        C.due("15: taken away", x.doubt(1, 3, 3, false), 1);
        C.due("15: is gone", x.doubt(1, 3, 3, false), 0);
        x.crack(2, 2, true);
        C.due("15: a crack of the burl is not the world's own", x.doubt(0, 2, 2, false), 0);
        C.due("15: no act", x.count(9), 1);
        C.due("15: no crack of the burl", x.count(2), 1);
        C.due("15: no world 2", x.doubt(2, 0, 0, true), -1);
        C.due("15: no world -1", x.doubt(-1, 0, 0, true), -1);
        C.due("15: no square", x.doubt(0, 4, 0, true), -1);
        C.due("15: no square", x.doubt(0, 0, 4, true), -1);
        C.due("15: no square", x.doubt(0, -1, 0, true), -1);
    }

    private static void choose() {
        BurlPipes x = new BurlPipes();
        for (int what = 0; what < 6; what++) {
            C.due("16: no worlds", x.choose(what), -2);
        }
        C.due("16: bad before state", x.choose(6), -1);
        C.due("16: bad before state", x.choose(-1), -1);
        x.world();
        C.due("16: no shapes: late", x.choose(0), 0);
        C.due("16: no shapes: waste", x.choose(3), -5);
        C.due("16: no shapes: least", x.choose(4), 0);
        C.due("16: bad", x.choose(6), -1);
        C.due("16: bad", x.choose(Integer.MIN_VALUE), -1);
    }

    private static void earlyLosesToLate() {
        BurlPipes x = new BurlPipes();
        x.burl(3, 1);
        x.shape(2, 1, 10, 0, false);
        x.shape(1, 1, 1, 0, false);
        x.world();
        x.world();
        x.doubt(0, 0, 0, true);
        x.doubt(1, 2, 0, true);
        C.due("16: late", x.choose(0), 20);
        C.due("16: early", x.choose(1), 11);
        C.due("16: late less early", x.choose(2), 9);
        C.due("16: the first cut that brings it", x.choose(3), 101);
        x.world();
        C.due("16: a third one, whole: late", x.choose(0), 31);
        C.due("16: early takes the pipe for two of them", x.choose(1), 22);
        C.due("16: least", x.choose(4), 10);
        C.due("16: greatest", x.choose(5), 11);
        x.crack(1, 0, true);
        C.due("16: with the burl's crack: late", x.choose(0), 4);
        C.due("16: with the burl's crack: early", x.choose(1), 4);
        C.due("16: least", x.choose(4), 1);
        C.due("16: greatest", x.choose(5), 2);
        x.undo();
        C.due("16: worlds stay when it is undone", x.choose(0), 31);
        x.doubt(0, 1, 0, true);
        C.due("16: the least is that of the first world", x.choose(4), 1);
        x.doubt(0, 1, 0, false);
        x.doubt(0, 0, 0, false);
        x.doubt(2, 1, 0, true);
        C.due("16: the greatest is that of the first world", x.choose(5), 11);
        C.due("16: the least is that of the last one", x.choose(4), 2);
        x.doubt(0, 0, 0, true);
        x.doubt(2, 1, 0, false);
        x.shape(3, 1, 21, 0, false);
        C.due("16: all of it fits in one world alone", x.choose(3), 101);
        x.drop();
        x.shape(3, 1, 22, 0, false);
        C.due("16: a shape that brings it", x.choose(3), 2);
        C.due("16: which is early", x.choose(1), 22);
    }

    private static void earlyWaste() {
        BurlPipes x = new BurlPipes();
        x.burl(2, 1);
        x.shape(2, 1, 10, 0, false);
        x.world();
        x.doubt(0, 1, 0, true);
        C.due("16: a shape of its size that fits in no world is waste", x.choose(3), -5);
        x.world();
        C.due("16: it fits in the second", x.choose(3), 0);
        C.due("16: and brings its price once", x.choose(1), 10);
        x.grain(0, 0, 9);
        x.drop();
        x.shape(2, 1, 10, 1, false);
        C.due("16: grain counts in all of them", x.choose(1), 0);
    }
}
