/** Promises 17 to 22: blocks in stock and orders. */
public final class StockTest {
    private static final Check C = new Check("StockTest");

    public static void main(String[] args) {
        store();
        stored();
        age();
        order();
        filled();
        filledLeastBlocks();
        filledByALongChain();
        deliver();
        C.end();
    }

    private static void store() {
        BurlPipes x = new BurlPipes();
        int[][] bad = {{0, 1, 0, 0}, {9, 1, 0, 0}, {1, 0, 0, 0}, {1, 9, 0, 0}, {1, 1, -1, 0}, {1, 1, 10, 0},
            {1, 1, 0, -1}, {1, 1, 0, 100}};
        for (int[] b : bad) {
            C.due("17: bad", x.store(b[0], b[1], b[2], b[3]), -1);
        }
        C.due("17: greater than the burl", x.store(8, 8, 9, 99), 0);
        for (int k = 1; k < 12; k++) {
            C.due("17: number", x.store(1, 1, 0, 0), k);
        }
        C.due("17: full", x.store(1, 1, 0, 0), -3);
        C.due("17: bad before full", x.store(1, 1, 0, 100), -1);
        C.due("17: twelve", x.count(7), 12);
    }

    private static void stored() {
        BurlPipes x = new BurlPipes();
        C.due("18: none there", x.stored(0, 0), -1);
        x.store(2, 3, 4, 5);
        x.store(3, 2, 6, 7);
        int[] due = {3, 2, 6, 7, 0};
        for (int what = 0; what < 5; what++) {
            C.due("18: what " + what, x.stored(1, what), due[what]);
        }
        x.shape(2, 3, 1, 5, false);
        x.shape(2, 3, 1, 4, true);
        x.order(0, 0, 1);
        x.order(1, 5, 1);
        x.order(1, 6, 1);
        C.due("18: too little grain, just old enough, too young", x.stored(0, 4), 1);
        C.due("18: turned alone", x.stored(1, 4), 2);
        C.due("18: no such block", x.stored(2, 0), -1);
        C.due("18: no such block", x.stored(-1, 0), -1);
        C.due("18: no such what", x.stored(0, 5), -1);
        C.due("18: no such what", x.stored(0, -1), -1);
    }

    private static void age() {
        BurlPipes x = new BurlPipes();
        C.due("19: no blocks", x.age(), 0);
        x.store(1, 1, 0, 98);
        x.store(1, 1, 0, 0);
        C.due("19: two", x.age(), 2);
        C.due("19: 99", x.stored(0, 3), 99);
        C.due("19: two", x.age(), 2);
        C.due("19: 99 at most", x.stored(0, 3), 99);
        C.due("19: the other one goes on", x.stored(1, 3), 2);
    }

    private static void order() {
        BurlPipes x = new BurlPipes();
        C.due("20: no shape", x.order(0, 0, 1), -1);
        x.shape(1, 1, 1, 0, false);
        C.due("20: age", x.order(0, -1, 1), -1);
        C.due("20: age", x.order(0, 100, 1), -1);
        C.due("20: pay", x.order(0, 0, 0), -1);
        C.due("20: pay", x.order(0, 0, 1001), -1);
        C.due("20: shape", x.order(1, 0, 1), -1);
        C.due("20: shape", x.order(-1, 0, 1), -1);
        C.due("20: the most", x.order(0, 99, 1000), 0);
        for (int o = 1; o < 8; o++) {
            C.due("20: number", x.order(0, 0, 1), o);
        }
        C.due("20: full", x.order(0, 0, 1), -3);
        C.due("20: bad before full", x.order(0, 0, 0), -1);
        C.due("20: eight", x.count(8), 8);
    }

    private static void filled() {
        BurlPipes x = new BurlPipes();
        C.due("21: nothing", x.filled(0), 0);
        C.due("21: nothing", x.filled(1), 0);
        C.due("21: no order", x.filled(10), -1);
        x.shape(1, 1, 1, 0, false);
        x.store(1, 1, 0, 5);
        x.store(1, 1, 0, 9);
        x.order(0, 9, 10);
        x.order(0, 5, 11);
        C.due("21: both", x.filled(0), 21);
        C.due("21: two", x.filled(1), 2);
        C.due("21: the only one that does", x.filled(10), 1);
        C.due("21: the other", x.filled(11), 0);
        x.order(0, 6, 500);
        C.due("21: the best paid one pushes another out", x.filled(0), 511);
        C.due("21: none for it", x.filled(10), -4);
        C.due("21: block", x.filled(11), 0);
        C.due("21: block", x.filled(12), 1);
        for (int bad : new int[] {-1, 2, 9, 13, 18, Integer.MIN_VALUE, Integer.MAX_VALUE}) {
            C.due("21: what " + bad, x.filled(bad), -1);
        }
        C.due("21: nothing goes", x.count(7), 2);
        C.due("21: nothing goes", x.count(8), 3);
    }

    private static void filledLeastBlocks() {
        BurlPipes x = new BurlPipes();
        x.shape(1, 1, 1, 0, false);
        for (int k = 0; k < 12; k++) {
            x.store(1, 1, 0, 12 - k);
        }
        for (int o = 0; o < 8; o++) {
            x.order(0, o < 2 ? 11 : 0, 7);
        }
        for (int o = 0; o < 8; o++) {
            C.due("21: the least block of order " + o, x.filled(10 + o), o);
        }
        BurlPipes y = new BurlPipes();
        y.shape(1, 1, 1, 0, false);
        y.store(1, 1, 0, 0);
        y.order(0, 0, 7);
        y.order(0, 0, 7);
        C.due("21: of two with the same pay order 0 gets it", y.filled(10), 0);
        C.due("21: and order 1 none", y.filled(11), -4);
        y.order(0, 0, 8);
        C.due("21: a better paid one", y.filled(12), 0);
        C.due("21: none for order 0", y.filled(10), -4);
        BurlPipes z = new BurlPipes();
        z.shape(1, 1, 1, 0, false);
        z.shape(1, 1, 1, 5, false);
        z.store(1, 1, 5, 0);
        z.store(1, 1, 0, 0);
        z.order(0, 0, 100);
        z.order(1, 0, 1);
        C.due("21: it leaves the fine block for the poor order", z.filled(0), 101);
        C.due("21: so order 0 gets the second", z.filled(10), 1);
    }

    // Orders 0 to 6 do with two blocks each, order 7 with block 0 alone: all have to move on for it.
    private static void filledByALongChain() {
        BurlPipes x = new BurlPipes();
        for (int i = 0; i < 8; i++) {
            x.store(1, 1, 9 - i, i);
            x.shape(1, 1, 1, i == 7 ? 9 : 8 - i, false);
        }
        int sum = 0;
        for (int i = 0; i < 8; i++) {
            int pay = i == 7 ? 1 : 100 - i;
            x.order(i, i == 7 ? 0 : i, pay);
            sum += pay;
        }
        C.due("21: all of them", x.filled(0), sum);
        for (int i = 0; i < 8; i++) {
            C.due("21: block of order " + i, x.filled(10 + i), i == 7 ? 0 : i + 1);
        }
        C.due("22: all go", x.deliver(), sum);
        C.due("22: no block is left", x.count(7), 0);
        C.due("22: no order is left", x.count(8), 0);
    }

    private static void deliver() {
        BurlPipes x = new BurlPipes();
        C.due("22: nothing", x.deliver(), 0);
        x.shape(1, 1, 1, 0, false);
        x.shape(2, 2, 1, 0, false);
        x.store(2, 2, 1, 1);
        x.store(1, 1, 2, 2);
        x.store(3, 3, 3, 3);
        x.store(2, 2, 4, 4);
        x.order(0, 50, 40);
        x.order(1, 4, 20);
        x.order(0, 0, 3);
        x.order(1, 60, 30);
        C.due("22: two go", x.deliver(), 23);
        C.due("22: blocks left", x.count(7), 2);
        C.due("22: orders left", x.count(8), 2);
        C.due("22: the first stays 0", x.stored(0, 0), 2);
        C.due("22: grain of it", x.stored(0, 2), 1);
        C.due("22: the third is 1 now", x.stored(1, 0), 3);
        C.due("22: its height", x.stored(1, 1), 3);
        C.due("22: its grain", x.stored(1, 2), 3);
        C.due("22: its age", x.stored(1, 3), 3);
        C.due("22: no third one", x.stored(2, 0), -1);
        x.store(1, 1, 0, 50);
        C.due("22: the order for 40 was kept as order 0", x.filled(10), 2);
        C.due("22: its pay", x.filled(0), 40);
        x.store(2, 2, 0, 60);
        C.due("22: the order for 30 is order 1 now", x.filled(11), 3);
        C.due("22: all", x.deliver(), 70);
        C.due("22: nothing is wanted then", x.deliver(), 0);
        C.due("22: shapes can go", x.drop(), 1);
    }
}
