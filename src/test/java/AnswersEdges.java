/** Boundary cases of what stands ahead of all promises: the 512 calls, and the answers of calls that are refused. */
final class AnswersEdges {
    private static final int MIN = Integer.MIN_VALUE, MAX = Integer.MAX_VALUE;

    private AnswersEdges() { }

    static void run(Edges e) {
        e.test(13, "An object is used for at most 512 calls after it has been made; what later calls answer is free.",
                AnswersEdges::the512thCall);
        e.test(2, "Answers: BAD -1 (a number is not as told,", AnswersEdges::badNumber);
        noSuch(e, "there is no such SHAPE, WORLD, BLOCK in STOCK, ORDER, PIPE, STAMP, SHEET)");
        e.test(16, "STATE -2 (as told)", AnswersEdges::state);
        e.test(5, "FULL -3", AnswersEdges::full);
        e.test(13, "NONE -4 (there is none)", AnswersEdges::none);
        firstThatFits(e, "the first that fits");
        e.test(28, "what is refused changes nothing (but THE TAPE, as told).", AnswersEdges::onlyTheTape);
    }

    private static void the512thCall(Edges e) {
        BurlPipes x = new BurlPipes();
        x.shape(1, 1, 3, 0, false);
        for (int call = 2; call <= 508; call++) {
            x.crack(call % 4, call / 4 % 4, call % 3 == 0);
        }
        e.due("call 509", x.crack(0, 0, true), 0);
        e.due("call 510", x.count(9), 8);
        e.due("call 511", x.undo(), 7);
        e.due("call 512", x.most(0, 0, 1, 1), 3);
        BurlPipes y = new BurlPipes();
        for (int call = 1; call <= 511; call++) {
            int turn = call % 26;
            e.due("call " + call, turn == 0 ? y.laws() : y.feed(0x626172203020313bL), turn == 0 ? 25 : 8 * turn);
        }
        e.due("the tape at call 512", y.end(0), 8 * 17);
    }

    private static void badNumber(Edges e) {
        e.due("BAD", BurlPipes.BAD, -1);
        e.due("burl", new BurlPipes().burl(0, 1), BurlPipes.BAD);
        e.due("count", new BurlPipes().count(13), BurlPipes.BAD);
    }

    private static void noSuch(Edges e, String words) {
        for (State state : State.values()) {
            int shapes = state.shapes();
            e.test(7, words, t -> t.beside(state, 0, shapes - 1, -1, (x, v) -> x.fits(0, 0, 1, 1, v)));
            e.test(20, words, t -> t.beside(state, 0, shapes - 1, -1, (x, v) -> x.order(v, 0, 1)));
            e.test(11, words, t -> t.beside(state, 10, 9 + shapes, -1, (x, v) -> x.sawn(v)));
            e.test(23, words, t -> t.beside(state, 0, shapes - 1, -1000000, (x, v) -> x.gains(v, 1)));
            e.test(15, words, t -> t.beside(state, 0, state.worlds() - 1, -1, (x, v) -> x.doubt(v, 0, 0, true)));
            e.test(18, words, t -> t.beside(state, 0, state.stock() - 1, -1, (x, v) -> x.stored(v, 0)));
            e.test(21, words, t -> t.beside(state, 10, 9 + state.orders(), -1, (x, v) -> x.filled(v)));
            e.test(25, words, t -> t.beside(state, 0, state.pipes() - 1, -100, (x, v) -> x.told(v, 0)));
            e.test(32, words, t -> t.beside(state, 0, state.pipes() - 1, -1, (x, v) -> x.years(v, 0)));
            e.test(30, words, t -> t.beside(state, 0, 7, -1, (x, v) -> x.stamp(v, 0)));
            e.test(36, words, t -> t.beside(state, 0, 3, -1, (x, v) -> x.sheet(v, 0, 1)));
            e.test(37, words, t -> t.beside(state, 0, 3, -1, (x, v) -> x.lay(v, 0, 1)));
            e.test(38, words, t -> t.beside(state, 0, 3, -1, (x, v) -> x.draw(v, 0, 0)));
        }
        e.test(7, words, t -> t.taken(State.LADEN, 0, 2, 0, (x, v) -> x.fits(1, 1, 1, 1, v)));
        e.test(15, words, t -> t.taken(State.LADEN, 0, 1, 0, (x, v) -> x.doubt(v, 2, 2, true)));
        e.test(18, words, t -> t.due("the last block", State.LADEN.make().stored(3, 0), 3));
        e.test(21, words, t -> t.due("the last order", State.FULL.make().filled(17), -4));
        e.test(25, words, t -> t.due("the last pipe", State.LADEN.make().told(4, 0), 5));
    }

    private static void state(Edges e) {
        e.due("STATE", BurlPipes.STATE, -2);
        e.due("choose", new BurlPipes().choose(0), BurlPipes.STATE);
        e.due("drop", State.FULL.make().drop(), BurlPipes.STATE);
    }

    private static void full(Edges e) {
        e.due("FULL", BurlPipes.FULL, -3);
        e.refused(State.FULL, BurlPipes.FULL, x -> x.shape(1, 1, 1, 0, false), BurlPipes::world,
                x -> x.store(1, 1, 0, 0), x -> x.order(0, 0, 1), x -> x.pipe(0, 0, 0, 0, 0, 0, 0), x -> x.feed(0));
    }

    private static void none(Edges e) {
        e.due("NONE", BurlPipes.NONE, -4);
        e.refused(State.NEW, BurlPipes.NONE, BurlPipes::drop, BurlPipes::undo, BurlPipes::worst, x -> x.count(5));
    }

    private static void firstThatFits(Edges e, String words) {
        e.test(5, words, t -> t.refused(State.FULL, -1, x -> x.shape(0, 1, 1, 0, false),
                x -> x.shape(1, 9, 1, 0, false), x -> x.shape(1, 1, 501, 0, false), x -> x.shape(1, 1, 1, 10, false)));
        e.test(17, words, t -> t.refused(State.FULL, -1, x -> x.store(0, 1, 0, 0), x -> x.store(1, 9, 0, 0),
                x -> x.store(1, 1, 10, 0), x -> x.store(1, 1, 0, 100)));
        e.test(20, words, t -> t.refused(State.FULL, -1, x -> x.order(8, 0, 1), x -> x.order(0, 100, 1),
                x -> x.order(0, 0, 1001)));
        e.test(24, words, t -> t.refused(State.FULL, -1, x -> x.pipe(6, 0, 0, 0, 0, 0, 0),
                x -> x.pipe(0, 0, 0, 0, 0, 51, 0), x -> x.pipe(0, 0, 0, 6, 0, 0, 0), x -> x.pipe(0, 0, 0, 0, 0, 0, 8)));
        e.test(16, words, t -> t.refused(State.NEW, -1, x -> x.choose(6), x -> x.choose(-1)));
        e.test(32, words, t -> {
            t.due("pipe 3 has no years", State.LADEN.make().years(3, 1), -4);
            t.refused(State.LADEN, -1, x -> x.years(3, 3), x -> x.years(3, -1), x -> x.years(3, MIN));
        });
        e.test(36, words, t -> t.refused(State.NEW, -1, x -> x.sheet(4, 0, -1), x -> x.sheet(0, 3, -1),
                x -> x.sheet(-1, 0, MIN), x -> x.sheet(0, -1, MIN)));
        e.test(37, words, t -> t.refused(State.NEW, -1, x -> x.lay(4, 0, 0), x -> x.lay(-1, MAX, 0)));
        e.test(38, words, t -> t.refused(State.NEW, -1, x -> x.draw(0, 3, 0), x -> x.draw(4, 0, -1)));
    }

    private static void onlyTheTape(Edges e) {
        for (State state : new State[] {State.NEW, State.LADEN, State.FULL}) {
            BurlPipes x = state.make();
            x.end(0);
            Check.write(x, "limit 7;bar 1 1;");
            e.due("a fault", x.laws(), -24);
            e.due("the tape is empty, " + state, x.end(0), 0);
        }
        for (State state : State.values()) {
            e.unchanged(state, x -> {
                x.end(0);
                Check.write(x, "limit 7;least A 3;second A B;stamp 0 1900 1901;bar 0 1;stamp 0");
                e.due("a fault", x.laws(), -10 - 61);
            }, "tape", "fault");
        }
    }
}
