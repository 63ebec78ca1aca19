/** Boundary cases of promises 17 to 22: blocks in stock and orders. */
final class StockEdges {
    private StockEdges() { }

    static void run(Edges e) {
        runStock(e);
        runOrders(e);
        runFilled(e);
        runDeliver(e);
    }

    private static void runStock(Edges e) {
        e.test(17, "STOCK (12):", StockEdges::twelveBlocks);
        e.test(17, "BLOCKS put by: w, h,", t -> {
            t.beside(1, 8, -1, (x, v) -> x.store(v, 1, 0, 0));
            t.beside(1, 8, -1, (x, v) -> x.store(1, v, 0, 0));
            t.taken(State.NEW, 1, 8, 0, (x, v) -> x.store(v, 1, 0, 0) + x.stored(0, 0) - v);
            t.taken(State.NEW, 1, 8, 0, (x, v) -> x.store(1, v, 0, 0) + x.stored(0, 1) - v);
        });
        e.test(17, "a GRAIN (0 to 9), an AGE (0 to 99 years).", t -> {
            t.beside(0, 9, -1, (x, v) -> x.store(1, 1, v, 0));
            t.taken(State.NEW, 0, 9, 0, (x, v) -> x.store(1, 1, v, 0) + x.stored(0, 2) - v);
            t.beside(0, 99, -1, (x, v) -> x.store(1, 1, 0, v));
            t.taken(State.NEW, 0, 99, 0, (x, v) -> x.store(1, 1, 0, v) + x.stored(0, 3) - v);
        });
        e.test(17, "A BLOCK is put by: its number.", t -> {
            t.due("the first", new BurlPipes().store(8, 8, 9, 99), 0);
            t.due("behind four", State.LADEN.make().store(1, 1, 0, 0), 4);
        });
        e.test(17, "BAD; FULL.", t -> {
            t.refused(State.FULL, -3, x -> x.store(1, 1, 0, 0), x -> x.store(8, 8, 9, 99));
            t.refused(State.LADEN, -1, x -> x.store(0, 0, -1, -1), x -> x.store(9, 9, 10, 100));
        });
        e.test(18, "Of a BLOCK of STOCK: 0 w, 1 h, 2 GRAIN, 3 AGE,", StockEdges::plainStored);
        e.test(18, "4 how many ORDERS it does for.", StockEdges::doesForHowMany);
        e.test(18, "BAD.", t -> {
            for (State state : State.values()) {
                t.beside(state, 0, state.stock() - 1, -1, (x, v) -> x.stored(v, 4));
            }
            t.beside(0, 4, -1, (x, v) -> x.stored(0, v));
            t.beside(State.FULL, 0, 4, -1, (x, v) -> x.stored(11, v));
        });
        e.test(19, "All STOCK is a year older (99 at most): how many BLOCKS there are.", StockEdges::ages);
    }

    private static void twelveBlocks(Edges e) {
        BurlPipes x = new BurlPipes();
        for (int k = 0; k < 12; k++) {
            e.due("block " + k, x.store(1, 1, 0, k), k);
            e.due("how many", x.count(7), k + 1);
        }
        e.due("a thirteenth", x.store(1, 1, 0, 0), -3);
        for (int k = 0; k < 12; k++) {
            e.due("block " + k + " as it came", x.stored(k, 3), k);
        }
    }

    private static void plainStored(Edges e) {
        BurlPipes x = new BurlPipes();
        x.store(8, 1, 9, 0);
        x.store(1, 8, 0, 99);
        int[][] due = {{8, 1, 9, 0}, {1, 8, 0, 99}};
        for (int i = 0; i < 8; i++) {
            e.due("block " + i / 4 + ", " + i % 4, x.stored(i / 4, i % 4), due[i / 4][i % 4]);
        }
    }

    private static void doesForHowMany(Edges e) {
        BurlPipes x = new BurlPipes();
        x.shape(1, 1, 1, 0, false);
        x.store(1, 1, 0, 0);
        e.due("no orders", x.stored(0, 4), 0);
        for (int o = 0; o < 8; o++) {
            x.order(0, 0, 1);
            e.due("orders", x.stored(0, 4), o + 1);
        }
        x.store(1, 2, 9, 99);
        e.due("another size", x.stored(1, 4), 0);
    }

    private static void ages(Edges e) {
        BurlPipes x = new BurlPipes();
        e.due("no blocks", x.age(), 0);
        for (int k = 0; k < 12; k++) {
            x.store(1, 1, 0, 88 + k);
            e.due("blocks", x.count(7), k + 1);
        }
        e.due("twelve", x.age(), 12);
        for (int k = 0; k < 12; k++) {
            e.due("block " + k, x.stored(k, 3), Math.min(99, 89 + k));
        }
        for (int year = 2; year <= 20; year++) {
            e.due("twelve", x.age(), 12);
            e.due("the youngest", x.stored(0, 3), Math.min(99, 88 + year));
            e.due("the oldest", x.stored(11, 3), 99);
        }
        BurlPipes y = new BurlPipes();
        y.store(1, 1, 0, 0);
        for (int year = 1; year <= 101; year++) {
            y.age();
            e.due("from 0 on", y.stored(0, 3), Math.min(99, year));
        }
    }

    private static void runOrders(Edges e) {
        e.test(20, "ORDERS (8):", StockEdges::eightOrders);
        e.test(20, "a SHAPE, a least AGE (0 to 99), a PAY (1 to 1000).", StockEdges::orderBounds);
        e.test(20, "An ORDER: its number.", t -> {
            t.due("behind three", State.LADEN.make().order(0, 0, 1), 3);
            BurlPipes x = State.LADEN.make();
            x.deliver();
            t.due("where some went out", x.order(0, 0, 1), x.count(8) - 1);
        });
        e.test(20, "BAD; FULL.", t -> {
            t.refused(State.FULL, -3, x -> x.order(0, 0, 1), x -> x.order(7, 99, 1000));
            t.refused(State.NEW, -1, x -> x.order(0, 0, 1), x -> x.order(0, 99, 1000));
        });
        e.test(21, "A BLOCK of STOCK does for an ORDER, if it is of the SHAPE's WIDTH and HEIGHT (TURNED: or the other"
                + " way round),", StockEdges::sizeDoes);
        e.test(21, "its GRAIN is at least LEAST GRAIN,", t -> {
            for (int grain = 0; grain <= 9; grain++) {
                t.due("grain " + grain + " for 0", does(grain, 0, 0, 0), 1);
                t.due("grain " + grain + " for 9", does(grain, 0, 9, 0), grain == 9 ? 1 : 0);
                t.due("grain " + grain + " for 5", does(grain, 0, 5, 0), grain >= 5 ? 1 : 0);
            }
        });
        e.test(21, "its AGE at least that told.", StockEdges::agesDo);
    }

    private static void eightOrders(Edges e) {
        BurlPipes x = new BurlPipes();
        x.shape(1, 1, 1, 0, false);
        for (int o = 0; o < 8; o++) {
            e.due("order " + o, x.order(0, 0, 1), o);
            e.due("how many", x.count(8), o + 1);
        }
        e.due("a ninth", x.order(0, 0, 1), -3);
    }

    private static void orderBounds(Edges e) {
        for (State state : State.values()) {
            e.beside(state, 0, state.shapes() - 1, -1, (x, v) -> x.order(v, 0, 1));
        }
        e.taken(State.LADEN, 0, 2, 3, (x, v) -> x.order(v, 0, 1));
        e.beside(0, 99, -1, (x, v) -> x.order(0, v, 1));
        e.taken(State.LADEN, 0, 99, 3, (x, v) -> x.order(0, v, 1));
        e.beside(1, 1000, -1, (x, v) -> x.order(0, 0, v));
        e.taken(State.LADEN, 1, 1000, 3, (x, v) -> x.order(0, 0, v));
        e.taken(State.NEW, 1, 1000, 0, (x, v) -> paid(x, v) - v);
    }

    private static void agesDo(Edges e) {
        int[] least = {0, 1, 50, 98, 99};
        for (int told : least) {
            for (int age : least) {
                e.due("age " + age + " for " + told, does(0, age, 0, told), age >= told ? 1 : 0);
            }
        }
        BurlPipes x = new BurlPipes();
        x.shape(1, 1, 1, 0, false);
        x.store(1, 1, 0, 97);
        x.order(0, 99, 1);
        x.age();
        e.due("a year too young", x.filled(1), 0);
        x.age();
        e.due("old enough", x.filled(1), 1);
    }

    private static int paid(BurlPipes x, int pay) {
        x.shape(1, 1, 1, 0, false);
        x.store(1, 1, 0, 0);
        x.order(0, 0, pay);
        return x.filled(0);
    }

    private static int does(int grain, int age, int leastGrain, int leastAge) {
        BurlPipes x = new BurlPipes();
        x.shape(1, 1, 1, leastGrain, false);
        x.store(1, 1, grain, age);
        x.order(0, leastAge, 1);
        int stored = x.stored(0, 4);
        return stored == x.filled(1) ? stored : -1;
    }

    private static void sizeDoes(Edges e) {
        for (int w = 1; w <= 3; w++) {
            for (int h = 1; h <= 3; h++) {
                BurlPipes x = new BurlPipes();
                x.shape(2, 3, 1, 0, false);
                x.shape(2, 3, 1, 0, true);
                x.store(w, h, 0, 0);
                x.order(0, 0, 1);
                e.due(w + " by " + h, x.filled(10), w == 2 && h == 3 ? 0 : -4);
                x.deliver();
                x.store(w, h, 0, 0);
                x.order(1, 0, 1000);
                int last = x.count(8) - 1;
                e.due(w + " by " + h + ", turned", x.filled(10 + last), w + h == 5 ? 0 : -4);
            }
        }
        BurlPipes y = new BurlPipes();
        y.shape(8, 1, 1, 0, true);
        y.store(1, 8, 0, 0);
        y.order(0, 0, 1);
        e.due("the longest, turned", y.filled(10), 0);
    }

    private static void runFilled(Edges e) {
        e.test(21, "FILLED: each ORDER gets one BLOCK that does for it, or none, no BLOCK for two,",
                StockEdges::noBlockForTwo);
        e.test(21, "with the greatest sum of PAYS;", StockEdges::greatestSum);
        e.test(21, "of several such that in which ORDER 0 gets the least BLOCK (none behind all), then ORDER 1, and"
                + " so on.",
                StockEdges::leastBlocks);
        e.test(21, "FILLED: 0 the sum of PAYS, 1 how many ORDERS get a BLOCK, 10 and o: the BLOCK of ORDER o (NONE).",
                StockEdges::allFilled);
        e.test(21, "BAD.", t -> {
            for (State state : State.values()) {
                int top = 10 + state.orders();
                t.refused(state, -1, x -> x.filled(-1), x -> x.filled(2), x -> x.filled(9), x -> x.filled(top),
                        x -> x.filled(18), x -> x.filled(Integer.MIN_VALUE), x -> x.filled(Integer.MAX_VALUE));
            }
        });
    }

    // Three blocks do for four of the orders: one that moves on may not push out another that has moved before.
    private static void fourOrdersOfFive(Edges e) {
        BurlPipes x = new BurlPipes();
        int[][] blocks = {{7, 3}, {4, 8}, {3, 4}, {5, 1}, {3, 2}, {1, 1}};
        for (int[] block : blocks) {
            x.store(1, 1, block[0], block[1]);
        }
        int[][] orders = {{2, 2, 42}, {5, 0, 37}, {1, 7, 4}, {4, 2, 2}, {4, 0, 21}};
        for (int[] order : orders) {
            x.order(x.shape(1, 1, 1, order[0], false), order[1], order[2]);
        }
        e.due("all but the least paid", x.filled(0), 104);
        int[] due = {2, 0, 1, -4, 3};
        for (int o = 0; o < due.length; o++) {
            e.due("the block of order " + o, x.filled(10 + o), due[o]);
        }
    }

    private static void noBlockForTwo(Edges e) {
        fourOrdersOfFive(e);
        BurlPipes x = new BurlPipes();
        x.shape(1, 1, 1, 0, false);
        x.order(0, 0, 5);
        e.due("no stock", x.filled(10), -4);
        x.store(2, 2, 0, 0);
        e.due("none that does", x.filled(10), -4);
        x.store(1, 1, 0, 0);
        e.due("one that does", x.filled(10), 1);
        x.store(1, 1, 0, 0);
        e.due("one order gets one of two", x.filled(1), 1);
        for (int o = 1; o < 8; o++) {
            x.order(0, 0, 5);
        }
        e.due("two blocks for eight orders", x.filled(1), 2);
        e.due("and their pay", x.filled(0), 10);
        for (int o = 2; o < 8; o++) {
            e.due("none for order " + o, x.filled(10 + o), -4);
        }
        e.due("other blocks for order 1", x.filled(11), 2);
    }

    private static void allFilled(Edges e) {
        e.due("no orders: sum", new BurlPipes().filled(0), 0);
        e.due("no orders: how many", new BurlPipes().filled(1), 0);
        BurlPipes x = new BurlPipes();
        x.shape(1, 1, 1, 0, false);
        for (int i = 0; i < 12; i++) {
            x.store(1, 1, 0, 0);
            x.order(0, 0, 1000);
        }
        e.due("all of eight", x.filled(1), 8);
        e.due("the greatest sum there is", x.filled(0), 8000);
        for (int o = 0; o < 8; o++) {
            e.due("the block of order " + o, x.filled(10 + o), o);
        }
        e.unchanged(State.LADEN, y -> y.filled(0));
        e.unchanged(State.FULL, y -> y.filled(10));
    }

    private static void greatestSum(Edges e) {
        for (int best = 0; best < 8; best++) {
            BurlPipes x = new BurlPipes();
            x.shape(1, 1, 1, 0, false);
            x.store(1, 1, 0, 0);
            for (int o = 0; o < 8; o++) {
                x.order(0, 0, o == best ? 1000 : o % 2 == 0 ? 999 : 1);
            }
            e.due("one block for the best paid of eight", x.filled(10 + best), 0);
            e.due("its pay", x.filled(0), 1000);
            e.due("one alone", x.filled(1), 1);
        }
        BurlPipes x = new BurlPipes();
        x.shape(1, 1, 1, 0, false);
        x.store(1, 1, 0, 5);
        x.store(1, 1, 0, 0);
        x.order(0, 0, 10);
        x.order(0, 5, 11);
        x.order(0, 5, 20);
        e.due("the old block to the best paid", x.filled(12), 0);
        e.due("the young one to the one that takes it", x.filled(10), 1);
        e.due("none for the third", x.filled(11), -4);
        e.due("sum", x.filled(0), 30);
        BurlPipes y = new BurlPipes();
        y.shape(1, 1, 1, 0, false);
        y.shape(1, 1, 1, 9, false);
        y.store(1, 1, 9, 0);
        y.order(0, 0, 999);
        y.order(1, 0, 1000);
        e.due("one more decides", y.filled(11), 0);
        e.due("one less gets none", y.filled(10), -4);
        y.store(1, 1, 0, 0);
        e.due("both with a poor block more", y.filled(0), 1999);
    }

    private static void leastBlocks(Edges e) {
        BurlPipes x = new BurlPipes();
        x.shape(1, 1, 1, 0, false);
        for (int k = 0; k < 12; k++) {
            x.store(k < 11 ? 2 : 1, 1, 0, 0);
        }
        x.order(0, 0, 1);
        x.order(0, 0, 1);
        e.due("the last block goes before none", x.filled(10), 11);
        e.due("none for order 1", x.filled(11), -4);
        BurlPipes y = new BurlPipes();
        y.shape(1, 1, 1, 0, false);
        y.store(1, 1, 0, 0);
        y.store(1, 1, 0, 9);
        y.order(0, 9, 7);
        y.order(0, 0, 7);
        y.order(0, 0, 7);
        e.due("order 0 has one that does", y.filled(10), 1);
        e.due("order 1 the least of the rest", y.filled(11), 0);
        e.due("order 2 none", y.filled(12), -4);
        BurlPipes z = new BurlPipes();
        z.shape(1, 1, 1, 0, false);
        z.store(1, 1, 0, 9);
        z.store(1, 1, 0, 9);
        z.store(1, 1, 0, 0);
        z.order(0, 0, 7);
        z.order(0, 9, 7);
        z.order(0, 9, 1);
        e.due("order 0 leaves the old ones for less pay", z.filled(10), 2);
        e.due("order 1 the first", z.filled(11), 0);
        e.due("order 2 the second", z.filled(12), 1);
    }

    private static void runDeliver(Edges e) {
        e.test(22, "As FILLED, ORDERS go out with their BLOCKS: both go (those behind them get less numbers): the"
                + " sum of PAYS.", t -> {
            t.unchanged(State.NEW, x -> t.due("nothing at all", x.deliver(), 0));
            onlyOneSide(t);
            firstOrLastGoes(t);
            allGo(t);
        });
    }

    private static void onlyOneSide(Edges e) {
        BurlPipes x = new BurlPipes();
        x.shape(1, 1, 1, 0, false);
        x.store(1, 1, 0, 0);
        e.due("no orders", x.deliver(), 0);
        e.due("the block stays", x.count(7), 1);
        BurlPipes y = new BurlPipes();
        y.shape(1, 1, 1, 0, false);
        y.order(0, 0, 1000);
        e.due("no stock", y.deliver(), 0);
        e.due("the order stays", y.count(8), 1);
        y.store(1, 1, 0, 0);
        e.due("with stock", y.deliver(), 1000);
        e.due("it goes", y.count(8), 0);
        e.due("and its block", y.count(7), 0);
        e.due("no block", y.stored(0, 0), -1);
        e.due("no order", y.filled(10), -1);
    }

    // Only the order and the block told suit one another and go; the others close up.
    private static void firstOrLastGoes(Edges e) {
        for (int gone : new int[] {0, 3, 7}) {
            BurlPipes x = new BurlPipes();
            x.shape(1, 1, 1, 9, false);
            x.shape(1, 1, 1, 0, false);
            for (int k = 0; k < 12; k++) {
                x.store(k == gone ? 1 : 2, k == gone ? 1 : 2, k % 9, 50 + k);
            }
            for (int o = 0; o < 8; o++) {
                x.order(o == gone ? 1 : 0, o, 100 + o);
            }
            e.due("one goes", x.deliver(), 100 + gone);
            e.due("eleven blocks", x.count(7), 11);
            e.due("seven orders", x.count(8), 7);
            for (int k = 0; k < 11; k++) {
                e.due("block " + k, x.stored(k, 3), 50 + (k < gone ? k : k + 1));
                e.due("its grain", x.stored(k, 2), (k < gone ? k : k + 1) % 9);
            }
            e.due("room for one", x.store(1, 1, 9, 99), 11);
            for (int o = 6; o >= 0; o--) {
                e.due("the best paid is the last", x.filled(10 + o), 11);
                e.due("its pay", x.deliver(), 100 + (o < gone ? o : o + 1));
                e.due("its block is gone", x.store(1, 1, 9, 99), 11);
            }
            e.due("no orders are left", x.count(8), 0);
        }
    }

    private static void allGo(Edges e) {
        BurlPipes x = new BurlPipes();
        x.shape(1, 1, 1, 0, false);
        for (int i = 0; i < 12; i++) {
            x.store(1, 1, 0, i);
            x.order(0, 0, 1000);
        }
        e.due("all orders", x.deliver(), 8000);
        e.due("no orders are left", x.count(8), 0);
        e.due("four blocks are left", x.count(7), 4);
        for (int k = 0; k < 4; k++) {
            e.due("block " + k, x.stored(k, 3), 8 + k);
        }
        e.due("no fifth", x.stored(4, 3), -1);
        e.due("nothing more", x.deliver(), 0);
        e.due("the shape can go", x.drop(), 0);
    }
}
