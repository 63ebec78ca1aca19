/** Promises 1 to 13 and 23: a new object, the burl, shapes, the sawing, acts and prices. */
public final class BurlTest {
    private static final Check C = new Check("BurlTest");

    public static void main(String[] args) {
        newObject();
        burl();
        crack();
        grain();
        shape();
        drop();
        fits();
        open();
        most();
        cut();
        sawn();
        costs();
        undo();
        gains();
        bigBoard();
        C.end();
    }

    private static void newObject() {
        BurlPipes x = new BurlPipes();
        int[] due = {0, 0, 0, 16, 0, BurlPipes.NONE, 0, 0, 0, 0, 0, 5, 0};
        for (int what = 0; what < due.length; what++) {
            C.due("1: count(" + what + ") when new", x.count(what), due[what]);
        }
        C.due("1: the lower right square", x.crack(3, 3, false), 0);
        C.due("1: right of it", x.crack(4, 3, false), -1);
        C.due("1: below it", x.crack(3, 4, false), -1);
        C.due("1: no fault", x.fault(), 0);
        for (int k = 0; k < 4; k++) {
            C.due("1: sheet of nothing", x.lay(k, 0, 0), -11);
        }
    }

    private static void burl() {
        BurlPipes x = new BurlPipes();
        x.crack(0, 0, true);
        x.grain(1, 0, 7);
        x.world();
        x.shape(1, 1, 2, 0, false);
        for (int bad : new int[] {0, 9, -1, Integer.MIN_VALUE, Integer.MAX_VALUE}) {
            C.due("2: w " + bad, x.burl(bad, 4), -1);
            C.due("2: h " + bad, x.burl(4, bad), -1);
        }
        C.due("2: what is refused keeps cracks", x.count(2), 1);
        C.due("2: .. worlds", x.count(6), 1);
        C.due("2: .. acts", x.count(9), 2);
        C.due("2: .. squares", x.count(3), 16);
        C.due("2: burl(8, 1)", x.burl(8, 1), 1);
        C.due("2: squares", x.count(3), 8);
        C.due("2: no cracks", x.count(2), 0);
        C.due("2: no worlds", x.count(6), 0);
        C.due("2: no acts", x.count(9), 0);
        C.due("2: nothing to undo", x.undo(), -4);
        C.due("2: shapes stay", x.count(0), 1);
        C.due("2: grain 0", x.grain(1, 0, 0), 0);
        C.due("2: burl(1, 8)", x.burl(1, 8), 1);
        C.due("2: burl(8, 8)", x.burl(8, 8), 1);
        C.due("2: squares of 8 by 8", x.count(3), 64);
        C.due("2: all of it pipes", x.most(0, 0, 8, 8), 128);
    }

    private static void crack() {
        BurlPipes x = new BurlPipes();
        x.burl(3, 2);
        C.due("3: had none", x.crack(2, 1, true), 0);
        C.due("3: had one", x.crack(2, 1, true), 1);
        C.due("3: taken away", x.crack(2, 1, false), 1);
        C.due("3: had none again", x.crack(2, 1, false), 0);
        C.due("3: each of them was an act", x.count(9), 4);
        int[][] bad = {{-1, 0}, {0, -1}, {3, 0}, {0, 2}, {Integer.MIN_VALUE, 0}, {0, Integer.MAX_VALUE}};
        for (int[] at : bad) {
            C.due("3: no square " + at[0] + ", " + at[1], x.crack(at[0], at[1], true), -1);
        }
        C.due("3: what is refused is no act", x.count(9), 4);
        C.due("3: and no crack", x.count(2), 0);
        x.burl(8, 8);
        x.crack(7, 7, true);
        x.crack(7, 3, true);
        C.due("3: cracks of the last square and another", x.count(2), 2);
        C.due("3: the last square", x.crack(7, 7, true), 1);
        C.due("3: its neighbour", x.crack(6, 7, true), 0);
    }

    private static void grain() {
        BurlPipes x = new BurlPipes();
        C.due("4: was 0", x.grain(3, 2, 9), 0);
        C.due("4: was 9", x.grain(3, 2, 4), 9);
        C.due("4: too much", x.grain(3, 2, 10), -1);
        C.due("4: too little", x.grain(3, 2, -1), -1);
        C.due("4: no square", x.grain(4, 2, 1), -1);
        C.due("4: no square", x.grain(2, 4, 1), -1);
        C.due("4: no square", x.grain(-1, 2, 1), -1);
        C.due("4: still 4", x.grain(3, 2, 0), 4);
        C.due("4: the other way round it was 0", x.grain(2, 3, 0), 0);
        C.due("4: acts", x.count(9), 4);
        x.crack(3, 2, true);
        x.grain(3, 2, 5);
        C.due("4: a crack stays", x.count(2), 1);
    }

    private static void shape() {
        BurlPipes x = new BurlPipes();
        int[][] bad = {{0, 1, 1, 0}, {9, 1, 1, 0}, {1, 0, 1, 0}, {1, 9, 1, 0}, {1, 1, 0, 0}, {1, 1, 501, 0},
            {1, 1, 1, -1}, {1, 1, 1, 10}};
        for (int[] b : bad) {
            C.due("5: a bad shape", x.shape(b[0], b[1], b[2], b[3], true), -1);
        }
        C.due("5: the least", x.shape(1, 1, 1, 0, false), 0);
        C.due("5: the greatest", x.shape(8, 8, 500, 9, true), 1);
        for (int s = 2; s < 8; s++) {
            C.due("5: number", x.shape(2, 3, 7, 1, false), s);
        }
        C.due("5: full", x.shape(1, 1, 1, 0, false), -3);
        C.due("5: bad before full", x.shape(1, 1, 0, 0, false), -1);
        C.due("5: eight", x.count(0), 8);
    }

    private static void drop() {
        BurlPipes x = new BurlPipes();
        C.due("6: none", x.drop(), -4);
        x.shape(1, 1, 1, 0, false);
        x.shape(1, 1, 9, 0, false);
        C.due("6: the latest", x.drop(), 1);
        C.due("6: its price is gone", x.most(0, 0, 1, 1), 1);
        C.due("6: its number is free", x.shape(1, 1, 3, 0, false), 1);
        x.order(0, 0, 5);
        C.due("6: an order for another", x.drop(), 1);
        C.due("6: an order for it", x.drop(), -2);
        C.due("6: it stays", x.count(0), 1);
        x.store(1, 1, 0, 0);
        x.deliver();
        C.due("6: after the order is gone", x.drop(), 0);
        C.due("6: none again", x.drop(), -4);
    }

    private static void fits() {
        BurlPipes x = new BurlPipes();
        x.shape(2, 3, 10, 4, false);
        x.shape(2, 3, 10, 0, true);
        C.due("7: too little grain", x.fits(0, 0, 2, 3, 0), 0);
        for (int y = 0; y < 3; y++) {
            for (int at = 0; at < 2; at++) {
                x.grain(at, y, 4);
            }
        }
        C.due("7: just enough grain", x.fits(0, 0, 2, 3, 0), 1);
        x.grain(1, 2, 3);
        C.due("7: one square has too little", x.fits(0, 0, 2, 3, 0), 0);
        C.due("7: the other way round, not turned", x.fits(0, 0, 3, 2, 0), 0);
        C.due("7: turned", x.fits(0, 0, 3, 2, 1), 1);
        C.due("7: of another size", x.fits(0, 0, 2, 2, 1), 0);
        x.crack(2, 1, true);
        C.due("7: a crack in it", x.fits(0, 0, 3, 2, 1), 0);
        C.due("7: beside it", x.fits(0, 0, 2, 3, 1), 1);
        int[][] bad = {{-1, 0, 2, 3}, {0, -1, 2, 3}, {3, 0, 2, 3}, {0, 2, 2, 3}, {0, 0, 0, 3}, {0, 0, 2, 0},
            {0, 0, -1, 3}, {Integer.MAX_VALUE, 0, 2, 3}, {1, 0, Integer.MAX_VALUE, 3}, {0, 0, 5, 1}};
        for (int[] b : bad) {
            C.due("7: no block", x.fits(b[0], b[1], b[2], b[3], 0), -1);
            C.due("9: no block", x.most(b[0], b[1], b[2], b[3]), -1);
            C.due("10: no block", x.cut(b[0], b[1], b[2], b[3]), -1);
        }
        C.due("7: no shape", x.fits(0, 0, 2, 3, 2), -1);
        C.due("7: no shape", x.fits(0, 0, 2, 3, -1), -1);
    }

    private static void open() {
        BurlPipes x = new BurlPipes();
        C.due("8: no shapes", x.open(), 0);
        x.shape(1, 4, 5, 0, false);
        x.shape(4, 1, 5, 0, false);
        x.shape(1, 4, 5, 0, true);
        x.shape(5, 1, 5, 0, true);
        x.shape(1, 1, 5, 9, false);
        C.due("8: all but the long one and the fine one", x.open(), 7);
        x.grain(3, 3, 9);
        C.due("8: one fine square", x.open(), 23);
        for (int i = 0; i < 4; i++) {
            x.crack(i, i, true);
        }
        C.due("8: no row and no column is whole", x.open(), 0);
        x.crack(2, 2, false);
        C.due("8: a row and a column", x.open(), 7);
        x.crack(1, 2, true);
        C.due("8: the column alone: not turned, turned", x.open(), 5);
    }

    private static void most() {
        BurlPipes x = new BurlPipes();
        C.due("9: without shapes", x.most(0, 0, 4, 4), 0);
        x.shape(2, 2, 10, 0, false);
        x.shape(3, 3, 24, 0, false);
        C.due("9: four small ones", x.most(0, 0, 4, 4), 40);
        C.due("9: one great one", x.most(1, 1, 3, 3), 24);
        C.due("9: one small one", x.most(1, 1, 3, 2), 10);
        C.due("9: too narrow", x.most(0, 0, 1, 4), 0);
        C.due("9: again all of it", x.most(0, 0, 4, 4), 40);
        x.crack(1, 1, true);
        C.due("9: a crack takes one of four", x.most(0, 0, 4, 4), 30);
        C.due("9: or all of the great one", x.most(1, 1, 3, 3), 10);
        x.shape(1, 1, 1, 3, false);
        x.grain(0, 0, 3);
        x.grain(1, 1, 9);
        C.due("9: the fine square, not the cracked one", x.most(0, 0, 4, 4), 31);
        pinwheel();
    }

    // Five blocks that lie round a middle one can't be had by straight cuts through.
    private static void pinwheel() {
        BurlPipes x = new BurlPipes();
        x.burl(3, 3);
        x.shape(2, 1, 10, 0, true);
        x.crack(1, 1, true);
        C.due("9: no four by cuts straight through", x.most(0, 0, 3, 3), 30);
    }

    private static void cut() {
        BurlPipes x = new BurlPipes();
        C.due("10: waste", x.cut(0, 0, 4, 4), -5);
        x.shape(2, 2, 20, 0, false);
        x.shape(2, 2, 20, 0, false);
        x.shape(1, 2, 10, 0, false);
        C.due("10: the least number of two", x.cut(1, 1, 2, 2), 0);
        C.due("10: a shape goes before cuts", x.cut(0, 0, 1, 2), 2);
        C.due("10: down at 1 brings all", x.cut(0, 0, 4, 2), 101);
        C.due("10: across, in a narrow block", x.cut(0, 0, 1, 4), 202);
        C.due("10: across at the first that does", x.cut(0, 0, 1, 3), 201);
        C.due("10: waste within", x.cut(0, 0, 4, 1), -5);
        x.drop();
        C.due("10: down at 1", x.cut(0, 0, 3, 2), 101);
        C.due("10: down at 2", x.cut(0, 0, 4, 2), 102);
        C.due("10: down before across", x.cut(0, 0, 4, 4), 102);
        C.due("10: across alone", x.cut(0, 0, 2, 4), 202);
        C.due("10: across at 1", x.cut(0, 0, 2, 3), 201);
        x.shape(2, 2, 21, 0, false);
        C.due("10: the dearer shape", x.cut(0, 0, 2, 2), 2);
    }

    private static void sawn() {
        BurlPipes x = new BurlPipes();
        C.due("11: nothing to be had", x.sawn(0), 0);
        C.due("11: no pipes", x.sawn(1), 0);
        C.due("11: no cuts", x.sawn(2), 0);
        C.due("11: all waste", x.sawn(3), 16);
        x.shape(3, 3, 50, 0, false);
        x.shape(1, 1, 1, 5, false);
        x.grain(3, 0, 5);
        C.due("11: most", x.sawn(0), 51);
        C.due("11: pipes", x.sawn(1), 2);
        C.due("11: cuts", x.sawn(2), 4);
        C.due("11: waste", x.sawn(3), 6);
        C.due("11: of shape 0", x.sawn(10), 1);
        C.due("11: of shape 1", x.sawn(11), 1);
        for (int bad : new int[] {-1, 4, 9, 12, 17, 18, Integer.MIN_VALUE, Integer.MAX_VALUE}) {
            C.due("11: what " + bad, x.sawn(bad), -1);
        }
        x.burl(8, 8);
        x.shape(1, 1, 3, 0, false);
        C.due("11: 64 pipes", x.sawn(12), 64 - 4 * 9);
        C.due("11: all of them", x.sawn(1), 64 - 4 * 9 + 4);
        C.due("11: no waste", x.sawn(3), 0);
        x.drop();
        x.drop();
        x.drop();
        x.shape(1, 1, 1, 0, false);
        C.due("11: 64 squares", x.sawn(1), 64);
        C.due("11: by 63 cuts", x.sawn(2), 63);
    }

    private static void costs() {
        BurlPipes x = new BurlPipes();
        x.burl(3, 1);
        x.shape(2, 1, 10, 0, false);
        x.shape(1, 1, 1, 0, false);
        C.due("12: at the side", x.costs(0, 0), 1);
        C.due("12: in the middle", x.costs(1, 0), 9);
        x.crack(0, 0, true);
        C.due("12: where it has one", x.costs(0, 0), 0);
        C.due("12: beside it", x.costs(1, 0), 9);
        C.due("12: nothing changed", x.count(2), 1);
        C.due("12: nothing changed", x.most(0, 0, 3, 1), 10);
        C.due("12: no act", x.count(9), 1);
        C.due("12: no square", x.costs(3, 0), -1);
        C.due("12: no square", x.costs(0, 1), -1);
        C.due("12: no square", x.costs(-1, 0), -1);
    }

    private static void undo() {
        BurlPipes x = new BurlPipes();
        C.due("13: none", x.undo(), -4);
        for (int v = 1; v <= 9; v++) {
            x.grain(0, 0, v);
        }
        x.crack(0, 0, true);
        C.due("13: eight at most", x.count(9), 8);
        x.shape(1, 1, 5, 2, false);
        C.due("13: the crack goes", x.undo(), 7);
        C.due("13: no crack", x.count(2), 0);
        for (int left = 6; left >= 0; left--) {
            C.due("13: a grain goes", x.undo(), left);
        }
        C.due("13: none left", x.undo(), -4);
        C.due("13: the grain before the eighth", x.grain(0, 0, 0), 2);
        C.due("13: an act after it", x.count(9), 1);
        x.crack(1, 1, false);
        x.crack(1, 1, false);
        C.due("13: acts that changed nothing count", x.undo(), 2);
        C.due("13: undo is no act", x.count(9), 2);
        x.burl(9, 9);
        C.due("13: a burl refused leaves them", x.undo(), 1);
        x.burl(4, 4);
        C.due("13: a burl leaves none", x.undo(), -4);
    }

    private static void gains() {
        BurlPipes x = new BurlPipes();
        x.burl(4, 1);
        x.shape(2, 1, 10, 0, false);
        x.shape(1, 1, 4, 0, false);
        C.due("23: more", x.gains(0, 15), 10);
        C.due("23: the same", x.gains(0, 10), 0);
        C.due("23: less, until the other one is better", x.gains(0, 1), -4);
        C.due("23: of the other", x.gains(1, 500), 1980);
        C.due("23: prices stay", x.most(0, 0, 4, 1), 20);
        C.due("23: no shape", x.gains(2, 5), -1000000);
        C.due("23: no shape", x.gains(-1, 5), -1000000);
        C.due("23: no price", x.gains(0, 0), -1000000);
        C.due("23: no price", x.gains(0, 501), -1000000);
        x.drop();
        x.burl(1, 1);
        C.due("23: where it does not fit", x.gains(0, 500), 0);
    }

    private static void bigBoard() {
        BurlPipes x = new BurlPipes();
        x.burl(8, 8);
        x.shape(8, 8, 500, 0, false);
        C.due("9: all of it one pipe", x.most(0, 0, 8, 8), 500);
        C.due("10: all of it one pipe", x.cut(0, 0, 8, 8), 0);
        C.due("8: open", x.open(), 1);
        C.due("12: a crack costs it", x.costs(7, 7), 500);
        x.shape(1, 8, 62, 0, true);
        C.due("9: still the one pipe", x.cut(0, 0, 8, 8), 0);
        x.crack(7, 7, true);
        C.due("9: seven columns", x.most(0, 0, 8, 8), 434);
        C.due("10: cut down first", x.cut(0, 0, 8, 8), 101);
        C.due("11: waste of the cracked column", x.sawn(3), 8);
    }
}
