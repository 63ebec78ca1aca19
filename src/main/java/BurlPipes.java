/** Pipes from burl. The numbered promises that the methods keep stand in the project's document. */
public final class BurlPipes {
    public static final int BAD = -1, STATE = -2, FULL = -3, NONE = -4;

    private static final int SIDE = 8, SQUARES = 64;
    private static final int MOST_SHAPES = 8, MOST_WORLDS = 4, MOST_ACTS = 8;
    private static final int MOST_STOCK = 12, MOST_ORDERS = 8, MOST_PIPES = 12;
    private static final int NAMES = 8, STAMPS = 8, LOTS = 6, SHEETS = 4, MOST_CELLS = 64;
    private static final int TOP_GRAIN = 9, TOP_GRADE = 5, TOP_PRICE = 500, TOP_PAY = 1000;
    private static final int TOP_AGE = 99, TOP_DRIFT = 50, TOP_LIMIT = 50;
    private static final int FIRST_YEAR = 1800, LAST_YEAR = 2000;

    private static final int WASTE = -5, DOWN = 100, ACROSS = 200;
    private static final int FAULT_BASE = -10, CELL_BASE = -100;
    private static final int NULL_FAULT = 1, INDEX_FAULT = 2, CAST_FAULT = 3, SIZE_FAULT = 4;
    private static final int CRACK_CELL = 10;
    private static final int BAD_GAIN = -1000000, BAD_TOLD = -100, BAD_LOT = -10000;

    private final Board board = new Board();
    private final Acts acts = new Acts();
    private final Shapes shapes = new Shapes();
    private final Saw saw = new Saw(board, shapes);
    private final long[] worldCracks = new long[MOST_WORLDS];
    private int worldCount = 0;
    private final Stock stock = new Stock();
    private final Orders orders = new Orders(stock, shapes);
    private final Pipes pipes = new Pipes();
    private final Tape tape = new Tape();
    private final LawReader reader = new LawReader(tape);
    private Laws held = new Laws();
    private Laws draft = new Laws();
    private final Sheet[] sheets = new Sheet[SHEETS];

    public BurlPipes() {
        for (int k = 0; k < SHEETS; k++) {
            sheets[k] = new Sheet();
        }
    }

    // ---- the burl

    public int burl(int w, int h) {
        if (!within(w, 1, SIDE) || !within(h, 1, SIDE)) {
            return BAD;
        }
        board.renew(w, h);
        acts.size = 0;
        worldCount = 0;
        return 1;
    }

    public int crack(int x, int y, boolean is) {
        if (!board.hasSquare(x, y)) {
            return BAD;
        }
        acts.keep(board);
        int had = bit(board.cracks, x, y);
        board.cracks = withBit(board.cracks, x, y, is);
        return had;
    }

    public int grain(int x, int y, int v) {
        if (!board.hasSquare(x, y) || !within(v, 0, TOP_GRAIN)) {
            return BAD;
        }
        acts.keep(board);
        int square = squareAt(x, y);
        int was = board.grain[square];
        board.grain[square] = v;
        return was;
    }

    public int shape(int w, int h, int price, int least, boolean turned) {
        if (!within(w, 1, SIDE) || !within(h, 1, SIDE)
                || !within(price, 1, TOP_PRICE) || !within(least, 0, TOP_GRAIN)) {
            return BAD;
        }
        if (shapes.size >= MOST_SHAPES) {
            return FULL;
        }
        return shapes.add(w, h, price, least, turned);
    }

    public int drop() {
        if (shapes.size == 0) {
            return NONE;
        }
        if (orders.want(shapes.size - 1)) {
            return STATE;
        }
        shapes.size--;
        return shapes.size;
    }

    public int fits(int x, int y, int w, int h, int s) {
        if (!board.hasBlock(x, y, w, h) || !shapes.has(s)) {
            return BAD;
        }
        return shapes.isOf(s, w, h) && board.soundness(x, y, w, h) >= shapes.least[s] ? 1 : 0;
    }

    public int open() {
        int bits = 0;
        for (int s = 0; s < shapes.size; s++) {
            if (isOpen(s)) {
                bits |= 1 << s;
            }
        }
        return bits;
    }

    private boolean isOpen(int s) {
        int w = shapes.width[s];
        int h = shapes.height[s];
        int least = shapes.least[s];
        return board.hasSound(w, h, least) || shapes.turned[s] && board.hasSound(h, w, least);
    }

    public int most(int x, int y, int w, int h) {
        if (!board.hasBlock(x, y, w, h)) {
            return BAD;
        }
        saw.seeOnly(board.cracks);
        return saw.weigh(x, y, w, h);
    }

    public int cut(int x, int y, int w, int h) {
        if (!board.hasBlock(x, y, w, h)) {
            return BAD;
        }
        saw.seeOnly(board.cracks);
        saw.weigh(x, y, w, h);
        return saw.decide(x, y, w, h);
    }

    public int sawn(int what) {
        boolean ofShape = within(what, 10, 9 + shapes.size);
        if (!within(what, 0, 3) && !ofShape) {
            return BAD;
        }
        int value = mostWith(board.cracks);
        if (what == 0) {
            return value;
        }
        saw.tally();
        if (ofShape) {
            return saw.pipesOf[what - 10];
        }
        return what == 1 ? saw.pipesSawn : what == 2 ? saw.cutsSawn : saw.squaresWasted;
    }

    public int costs(int x, int y) {
        if (!board.hasSquare(x, y)) {
            return BAD;
        }
        return mostWith(board.cracks) - mostWith(withBit(board.cracks, x, y, true));
    }

    public int undo() {
        if (acts.size == 0) {
            return NONE;
        }
        acts.takeBack(board);
        return acts.size;
    }

    private int mostWith(long cracks) {
        saw.seeOnly(cracks);
        return saw.weigh(0, 0, board.width, board.height);
    }

    // ---- worlds

    public int world() {
        if (worldCount >= MOST_WORLDS) {
            return FULL;
        }
        worldCracks[worldCount] = 0;
        worldCount++;
        return worldCount - 1;
    }

    public int doubt(int world, int x, int y, boolean is) {
        if (!within(world, 0, worldCount - 1) || !board.hasSquare(x, y)) {
            return BAD;
        }
        int had = bit(worldCracks[world], x, y);
        worldCracks[world] = withBit(worldCracks[world], x, y, is);
        return had;
    }

    public int choose(int what) {
        if (!within(what, 0, 5)) {
            return BAD;
        }
        if (worldCount == 0) {
            return STATE;
        }
        switch (what) {
            case 0: return late();
            case 1: return early();
            case 2: return late() - early();
            case 3: return earlyDeed();
            case 4: return leastOfWorlds();
            default: return greatestOfWorlds();
        }
    }

    private int mostInWorld(int world) {
        saw.seeOnly(board.cracks | worldCracks[world]);
        return saw.weigh(0, 0, board.width, board.height);
    }

    private int late() {
        int sum = 0;
        for (int i = 0; i < worldCount; i++) {
            sum += mostInWorld(i);
        }
        return sum;
    }

    private int early() {
        saw.seeOnly(board.cracks | worldCracks[0]);
        for (int i = 1; i < worldCount; i++) {
            saw.seeToo(board.cracks | worldCracks[i]);
        }
        return saw.weigh(0, 0, board.width, board.height);
    }

    private int earlyDeed() {
        early();
        return saw.decide(0, 0, board.width, board.height);
    }

    private int leastOfWorlds() {
        int least = mostInWorld(0);
        for (int i = 1; i < worldCount; i++) {
            least = Math.min(least, mostInWorld(i));
        }
        return least;
    }

    private int greatestOfWorlds() {
        int greatest = 0;
        for (int i = 0; i < worldCount; i++) {
            greatest = Math.max(greatest, mostInWorld(i));
        }
        return greatest;
    }

    // ---- stock, orders

    public int store(int w, int h, int grain, int age) {
        if (!within(w, 1, SIDE) || !within(h, 1, SIDE)
                || !within(grain, 0, TOP_GRAIN) || !within(age, 0, TOP_AGE)) {
            return BAD;
        }
        if (stock.size >= MOST_STOCK) {
            return FULL;
        }
        return stock.add(w, h, grain, age);
    }

    public int stored(int k, int what) {
        if (!within(k, 0, stock.size - 1)) {
            return BAD;
        }
        switch (what) {
            case 0: return stock.width[k];
            case 1: return stock.height[k];
            case 2: return stock.grain[k];
            case 3: return stock.years[k];
            case 4: return orders.servedBy(k);
            default: return BAD;
        }
    }

    public int age() {
        for (int k = 0; k < stock.size; k++) {
            stock.years[k] = Math.min(TOP_AGE, stock.years[k] + 1);
        }
        return stock.size;
    }

    public int order(int shape, int age, int pay) {
        if (!shapes.has(shape) || !within(age, 0, TOP_AGE) || !within(pay, 1, TOP_PAY)) {
            return BAD;
        }
        if (orders.size >= MOST_ORDERS) {
            return FULL;
        }
        return orders.add(shape, age, pay);
    }

    public int filled(int what) {
        boolean ofOrder = within(what, 10, 9 + orders.size);
        if (!within(what, 0, 1) && !ofOrder) {
            return BAD;
        }
        int sum = orders.fill();
        if (ofOrder) {
            return orders.given[what - 10];
        }
        return what == 0 ? sum : Integer.bitCount(orders.givenBlocks());
    }

    public int deliver() {
        int sum = orders.fill();
        stock.remove(orders.givenBlocks());
        orders.removeFilled();
        return sum;
    }

    // ---- prices

    public int gains(int s, int p) {
        if (!shapes.has(s) || !within(p, 1, TOP_PRICE)) {
            return BAD_GAIN;
        }
        int before = mostWith(board.cracks);
        int own = shapes.price[s];
        shapes.price[s] = p;
        int after = mostWith(board.cracks);
        shapes.price[s] = own;
        return after - before;
    }

    // ---- pipes

    public int pipe(int lot, int a, int b, int c, int stamps, int drift, int name) {
        if (!within(lot, 0, LOTS - 1) || !within(stamps, 0, (1 << STAMPS) - 1)
                || !within(drift, -TOP_DRIFT, TOP_DRIFT) || !within(name, 0, NAMES - 1)) {
            return BAD;
        }
        if (!within(a, 0, TOP_GRADE) || !within(b, 0, TOP_GRADE) || !within(c, 0, TOP_GRADE)) {
            return BAD;
        }
        if (pipes.size >= MOST_PIPES) {
            return FULL;
        }
        int p = pipes.add(lot, stamps, drift, name);
        pipes.judge(p, a, b, c);
        return p;
    }

    public int told(int p, int what) {
        if (!pipes.has(p)) {
            return BAD_TOLD;
        }
        switch (what) {
            case 0: return pipes.lots[p];
            case 1: return pipes.grades[p];
            case 2: return pipes.agree[p];
            case 3: return pipes.stamps[p];
            case 4: return pipes.drifts[p];
            case 5: return pipes.names[p];
            case 6: return held.seller(pipes.names[p], pipes.grades[p]);
            case 7: return held.stepsToSell(pipes.names[p], pipes.grades[p]);
            default: return BAD_TOLD;
        }
    }

    // ---- laws

    public int feed(long v) {
        if (tape.length + 8 > Tape.ROOM) {
            return FULL;
        }
        tape.append(v);
        return tape.length;
    }

    public int end(int n) {
        if (!within(n, 0, tape.length)) {
            return BAD;
        }
        int had = tape.length;
        tape.length = n;
        return had;
    }

    public int laws() {
        reader.read(draft);
        tape.length = 0;
        if (reader.fault != 0) {
            return FAULT_BASE - reader.place;
        }
        Laws old = held;
        held = draft;
        draft = old;
        return held.size;
    }

    public int fault() {
        return reader.fault;
    }

    public int stamp(int s, int what) {
        if (!within(s, 0, STAMPS - 1)) {
            return BAD;
        }
        switch (what) {
            case 0: return held.from[s];
            case 1: return held.to[s];
            case 2: return held.barred[s];
            default: return BAD;
        }
    }

    public int name(int n, int what) {
        if (!within(n, 0, NAMES - 1)) {
            return BAD;
        }
        switch (what) {
            case 0: return held.least[n];
            case 1: return held.second[n];
            case 2: return held.stepsToSell(n, Laws.NO_GRADE);
            default: return BAD;
        }
    }

    // ---- dates, lots

    public int years(int p, int what) {
        if (!pipes.has(p) || !within(what, 0, 2)) {
            return BAD;
        }
        int stamps = pipes.stamps[p];
        int n = held.yearCount(stamps);
        if (what == 0) {
            return n;
        }
        if (n == 0) {
            return NONE;
        }
        return what == 1 ? held.firstYear(stamps) : held.lastYear(stamps);
    }

    public int dated(int year) {
        if (!within(year, FIRST_YEAR, LAST_YEAR)) {
            return BAD;
        }
        int n = 0;
        for (int p = 0; p < pipes.size; p++) {
            if (held.mayBeOf(pipes.stamps[p], year)) {
                n++;
            }
        }
        return n;
    }

    public int lot(int l, int what) {
        if (!within(l, 0, LOTS - 1)) {
            return BAD_LOT;
        }
        switch (what) {
            case 0: return pipes.howMany(l);
            case 1: return pipes.sumIn(pipes.drifts, l);
            case 2: return pipes.sumIn(pipes.grades, l);
            case 3: return pipes.sumIn(pipes.agree, l);
            case 4: return pipes.isOff(l, held.limit) ? 1 : 0;
            case 5: return pipes.longestRun(l);
            default: return BAD_LOT;
        }
    }

    public int worst() {
        int worst = NONE;
        for (int l = 0; l < LOTS; l++) {
            if (pipes.isOff(l, held.limit) && (worst == NONE || pipes.isWorse(l, worst))) {
                worst = l;
            }
        }
        return worst;
    }

    // ---- sheets

    public int sheet(int k, int lane, int n) {
        if (!within(k, 0, SHEETS - 1) || !within(lane, 0, 2) || n > MOST_CELLS) {
            return BAD;
        }
        if (n < 0) {
            return FAULT_BASE - SIZE_FAULT;
        }
        sheets[k].renew(lane, n);
        return 1;
    }

    public int lay(int k, int i, int v) {
        if (!within(k, 0, SHEETS - 1)) {
            return BAD;
        }
        Sheet sheet = sheets[k];
        if (sheet.isNothing()) {
            return FAULT_BASE - NULL_FAULT;
        }
        if (!sheet.has(i)) {
            return FAULT_BASE - INDEX_FAULT;
        }
        sheet.put(i, v);
        return 1;
    }

    public int draw(int k, int lane, int f) {
        if (!within(k, 0, SHEETS - 1) || !within(lane, 0, 2)) {
            return BAD;
        }
        Sheet sheet = sheets[k];
        if (sheet.isNothing()) {
            return FAULT_BASE - NULL_FAULT;
        }
        if (sheet.lane != lane) {
            return FAULT_BASE - CAST_FAULT;
        }
        int refusal = refusalOf(sheet, f);
        if (refusal != 0) {
            return refusal;
        }
        acts.keep(board);
        copyOnBoard(sheet, f);
        return Long.bitCount(board.cracks);
    }

    // All cells are looked at before the first square changes: a draw() that fails changes nothing.
    private int refusalOf(Sheet sheet, int f) {
        int squares = board.width * board.height;
        for (int i = 0; i < squares; i++) {
            // f + i can't wrap round: an f near the top is no cell already at i = 0.
            if (!sheet.has(f + i)) {
                return FAULT_BASE - INDEX_FAULT;
            }
            if (!within(sheet.cells[f + i], 0, CRACK_CELL)) {
                return CELL_BASE - i;
            }
        }
        return 0;
    }

    private void copyOnBoard(Sheet sheet, int f) {
        int cell = f;
        for (int y = 0; y < board.height; y++) {
            for (int x = 0; x < board.width; x++) {
                boolean cracked = sheet.cells[cell] == CRACK_CELL;
                board.grain[squareAt(x, y)] = cracked ? 0 : sheet.cells[cell];
                board.cracks = withBit(board.cracks, x, y, cracked);
                cell++;
            }
        }
    }

    public int count(int what) {
        switch (what) {
            case 0: return shapes.size;
            case 1: return pipes.size;
            case 2: return Long.bitCount(board.cracks);
            case 3: return board.width * board.height;
            case 4: return lotsOff();
            case 5: return sheets[0].isNothing() ? NONE : sheets[0].size;
            case 6: return worldCount;
            case 7: return stock.size;
            case 8: return orders.size;
            case 9: return acts.size;
            case 10: return held.size;
            case 11: return held.limit;
            case 12: return soldOn();
            default: return BAD;
        }
    }

    private int lotsOff() {
        int n = 0;
        for (int l = 0; l < LOTS; l++) {
            if (pipes.isOff(l, held.limit)) {
                n++;
            }
        }
        return n;
    }

    private int soldOn() {
        int n = 0;
        for (int p = 0; p < pipes.size; p++) {
            int seller = held.seller(pipes.names[p], pipes.grades[p]);
            if (seller != NONE && seller != pipes.names[p]) {
                n++;
            }
        }
        return n;
    }

    // ---- small helps

    private static boolean within(int v, int low, int high) {
        return v >= low && v <= high;
    }

    // Squares lie eight to a row on every board, so that a set of them is one long of bits.
    private static int squareAt(int x, int y) {
        return y * SIDE + x;
    }

    private static int bit(long squares, int x, int y) {
        return (int) (squares >> squareAt(x, y) & 1L);
    }

    private static long withBit(long squares, int x, int y, boolean is) {
        long mark = 1L << squareAt(x, y);
        return is ? squares | mark : squares & ~mark;
    }

    private static final class Board {
        int width = 4;
        int height = 4;
        long cracks = 0;
        final int[] grain = new int[SQUARES];

        void renew(int w, int h) {
            width = w;
            height = h;
            cracks = 0;
            for (int i = 0; i < SQUARES; i++) {
                grain[i] = 0;
            }
        }

        void copyFrom(Board other) {
            width = other.width;
            height = other.height;
            cracks = other.cracks;
            System.arraycopy(other.grain, 0, grain, 0, SQUARES);
        }

        boolean hasSquare(int x, int y) {
            return within(x, 0, width - 1) && within(y, 0, height - 1);
        }

        boolean hasBlock(int x, int y, int w, int h) {
            return within(w, 1, width) && within(h, 1, height)
                    && within(x, 0, width - w) && within(y, 0, height - h);
        }

        /** The least grain in a block; below 0 with a crack, so that no least grain is met. */
        int soundness(int x, int y, int w, int h) {
            int least = TOP_GRAIN;
            for (int row = y; row < y + h; row++) {
                for (int column = x; column < x + w; column++) {
                    if (bit(cracks, column, row) == 1) {
                        return -1;
                    }
                    least = Math.min(least, grain[squareAt(column, row)]);
                }
            }
            return least;
        }

        boolean hasSound(int w, int h, int least) {
            for (int y = 0; y + h <= height; y++) {
                for (int x = 0; x + w <= width; x++) {
                    if (soundness(x, y, w, h) >= least) {
                        return true;
                    }
                }
            }
            return false;
        }
    }

    /** Boards as they were before the latest acts; the oldest gives way when there is no room. */
    private static final class Acts {
        private final Board[] before = new Board[MOST_ACTS];
        private int next = 0;
        int size = 0;

        Acts() {
            for (int i = 0; i < MOST_ACTS; i++) {
                before[i] = new Board();
            }
        }

        void keep(Board board) {
            before[next].copyFrom(board);
            next = next == MOST_ACTS - 1 ? 0 : next + 1;
            size = Math.min(MOST_ACTS, size + 1);
        }

        void takeBack(Board board) {
            next = next == 0 ? MOST_ACTS - 1 : next - 1;
            size--;
            board.copyFrom(before[next]);
        }
    }

    private static final class Shapes {
        final int[] width = new int[MOST_SHAPES];
        final int[] height = new int[MOST_SHAPES];
        final int[] price = new int[MOST_SHAPES];
        final int[] least = new int[MOST_SHAPES];
        final boolean[] turned = new boolean[MOST_SHAPES];
        int size = 0;

        int add(int w, int h, int cost, int leastGrain, boolean mayTurn) {
            width[size] = w;
            height[size] = h;
            price[size] = cost;
            least[size] = leastGrain;
            turned[size] = mayTurn;
            size++;
            return size - 1;
        }

        boolean has(int s) {
            return within(s, 0, size - 1);
        }

        boolean isOf(int s, int w, int h) {
            return width[s] == w && height[s] == h || turned[s] && width[s] == h && height[s] == w;
        }
    }

    /**
     * The best sawing of the board in one or several views of its cracks at once: a pipe brings its
     * price for each view in which its block fits. One view gives MOST, a view a world gives EARLY.
     */
    private static final class Saw {
        private static final int WIDER = 512, HIGHER = 64, ROOM = 4096;
        private static final int VIEW_SHIFT = 10;

        private final Board board;
        private final Shapes shapes;
        private final long[] views = new long[MOST_WORLDS];
        private int viewCount = 0;
        // A square's mark has a bit for each least grain that it meets and, above those, one for each
        // view that has no crack there: so a block's mark is the AND of the marks of its squares.
        private final int[] marks = new int[SQUARES];
        private final int[] shapesOfSize = new int[SQUARES];
        private final int[] columns = new int[SIDE];
        private final int[] blocks = new int[SIDE];
        private final int[] best = new int[ROOM];
        private final int[] waiting = new int[SQUARES];
        final int[] pipesOf = new int[MOST_SHAPES];
        int pipesSawn = 0;
        int cutsSawn = 0;
        int squaresWasted = 0;

        Saw(Board itsBoard, Shapes itsShapes) {
            board = itsBoard;
            shapes = itsShapes;
        }

        void seeOnly(long cracks) {
            views[0] = cracks;
            viewCount = 1;
        }

        void seeToo(long cracks) {
            if (viewCount < MOST_WORLDS) {
                views[viewCount] = cracks;
                viewCount++;
            }
        }

        /** The most that a block of the board brings; what all blocks within it bring is kept. */
        int weigh(int x, int y, int w, int h) {
            markSquares();
            sortShapes();
            for (int high = 1; high <= h; high++) {
                for (int top = y; top + high <= y + h; top++) {
                    weighBand(x, w, top, high);
                }
            }
            return best[placeOf(x, y, w, h)];
        }

        // Places are laid so that a step in x, y, w or h is a fixed stride.
        private static int placeOf(int x, int y, int w, int h) {
            return (w - 1) * WIDER + (h - 1) * HIGHER + squareAt(x, y);
        }

        private void markSquares() {
            for (int y = 0; y < board.height; y++) {
                for (int x = 0; x < board.width; x++) {
                    int mark = (2 << board.grain[squareAt(x, y)]) - 1;
                    for (int v = 0; v < viewCount; v++) {
                        mark |= (1 - bit(views[v], x, y)) << (VIEW_SHIFT + v);
                    }
                    marks[squareAt(x, y)] = mark;
                }
            }
        }

        private void sortShapes() {
            for (int i = 0; i < SQUARES; i++) {
                shapesOfSize[i] = 0;
            }
            for (int s = 0; s < shapes.size; s++) {
                int w = shapes.width[s] - 1;
                int h = shapes.height[s] - 1;
                shapesOfSize[squareAt(w, h)] |= 1 << s;
                if (shapes.turned[s]) {
                    shapesOfSize[squareAt(h, w)] |= 1 << s;
                }
            }
        }

        private void weighBand(int x, int w, int top, int high) {
            for (int column = x; column < x + w; column++) {
                columns[column] = markOf(column, top, 1, high);
                blocks[column] = columns[column];
            }
            for (int wide = 1; wide <= w; wide++) {
                int suiting = shapesOfSize[squareAt(wide - 1, high - 1)];
                int place = placeOf(x, top, wide, high);
                for (int left = x; left + wide <= x + w; left++) {
                    blocks[left] &= columns[left + wide - 1];
                    int pipe = suiting == 0 ? 0 : bestPipe(suiting, blocks[left]);
                    best[place] = Math.max(pipe, Math.max(bestDown(place, wide), bestAcross(place, high)));
                    place++;
                }
            }
        }

        private int markOf(int x, int y, int w, int h) {
            int mark = -1;
            for (int row = y; row < y + h; row++) {
                for (int column = x; column < x + w; column++) {
                    mark &= marks[squareAt(column, row)];
                }
            }
            return mark;
        }

        private int brings(int s, int mark) {
            boolean fineEnough = (mark >> shapes.least[s] & 1) == 1;
            return fineEnough ? shapes.price[s] * Integer.bitCount(mark >> VIEW_SHIFT) : 0;
        }

        private int bestPipe(int suiting, int mark) {
            int value = 0;
            for (int s = 0; s < shapes.size; s++) {
                if ((suiting >> s & 1) == 1) {
                    value = Math.max(value, brings(s, mark));
                }
            }
            return value;
        }

        private int bestDown(int place, int w) {
            int value = 0;
            int left = place - (w - 1) * WIDER;
            int right = place - WIDER + 1;
            for (int k = 1; k < w; k++) {
                int sum = best[left] + best[right];
                value = sum > value ? sum : value;
                left += WIDER;
                right += 1 - WIDER;
            }
            return value;
        }

        private int bestAcross(int place, int h) {
            int value = 0;
            int upper = place - (h - 1) * HIGHER;
            int lower = place - HIGHER + SIDE;
            for (int k = 1; k < h; k++) {
                int sum = best[upper] + best[lower];
                value = sum > value ? sum : value;
                upper += HIGHER;
                lower += SIDE - HIGHER;
            }
            return value;
        }

        /** What is done with a block that weigh() has gone through: a shape, WASTE or a cut. */
        int decide(int x, int y, int w, int h) {
            int value = best[placeOf(x, y, w, h)];
            if (value == 0) {
                return WASTE;
            }
            int suiting = shapesOfSize[squareAt(w - 1, h - 1)];
            int mark = markOf(x, y, w, h);
            for (int s = 0; s < shapes.size; s++) {
                if ((suiting >> s & 1) == 1 && brings(s, mark) == value) {
                    return s;
                }
            }
            return firstCut(x, y, w, h);
        }

        private int firstCut(int x, int y, int w, int h) {
            int value = best[placeOf(x, y, w, h)];
            for (int k = 1; k < w; k++) {
                if (best[placeOf(x, y, k, h)] + best[placeOf(x + k, y, w - k, h)] == value) {
                    return DOWN + k;
                }
            }
            for (int k = 1; k < h; k++) {
                if (best[placeOf(x, y, w, k)] + best[placeOf(x, y + k, w, h - k)] == value) {
                    return ACROSS + k;
                }
            }
            return WASTE;
        }

        /** Counts what the sawing of all the board makes, after weigh() of all of it. */
        void tally() {
            pipesSawn = 0;
            cutsSawn = 0;
            squaresWasted = 0;
            for (int s = 0; s < MOST_SHAPES; s++) {
                pipesOf[s] = 0;
            }
            waiting[0] = placeOf(0, 0, board.width, board.height);
            int size = 1;
            // n parts come of n - 1 cuts: 64 squares can't give more than 127 blocks.
            for (int n = 0; n < 2 * SQUARES && size > 0; n++) {
                size--;
                size = tallyBlock(waiting[size], size);
            }
        }

        private int tallyBlock(int place, int size) {
            int x = place & 7;
            int y = place >> 3 & 7;
            int h = (place >> 6 & 7) + 1;
            int w = (place >> 9 & 7) + 1;
            int deed = decide(x, y, w, h);
            if (deed == WASTE) {
                squaresWasted += w * h;
                return size;
            }
            if (deed < DOWN) {
                pipesSawn++;
                pipesOf[deed]++;
                return size;
            }
            cutsSawn++;
            // What waits shares no square with what is cut, so there are never more than 64.
            if (size + 2 > SQUARES) {
                return size;
            }
            boolean down = deed < ACROSS;
            int k = down ? deed - DOWN : deed - ACROSS;
            waiting[size] = down ? placeOf(x, y, k, h) : placeOf(x, y, w, k);
            waiting[size + 1] = down ? placeOf(x + k, y, w - k, h) : placeOf(x, y + k, w, h - k);
            return size + 2;
        }
    }

    private static final class Stock {
        final int[] width = new int[MOST_STOCK];
        final int[] height = new int[MOST_STOCK];
        final int[] grain = new int[MOST_STOCK];
        final int[] years = new int[MOST_STOCK];
        int size = 0;

        int add(int w, int h, int itsGrain, int itsYears) {
            width[size] = w;
            height[size] = h;
            grain[size] = itsGrain;
            years[size] = itsYears;
            size++;
            return size - 1;
        }

        void remove(int gone) {
            int old = size;
            size = 0;
            for (int k = 0; k < old; k++) {
                if ((gone >> k & 1) == 0) {
                    add(width[k], height[k], grain[k], years[k]);
                }
            }
        }
    }

    private static final class Orders {
        private final Stock stock;
        private final Shapes shapes;
        private final int[] shapeOf = new int[MOST_ORDERS];
        private final int[] leastYears = new int[MOST_ORDERS];
        private final int[] pay = new int[MOST_ORDERS];
        int size = 0;
        /** The block of each order by the latest fill(), or NONE. */
        final int[] given = new int[MOST_ORDERS];
        private final int[] suiting = new int[MOST_ORDERS];
        private final int[] holder = new int[MOST_STOCK];
        private int free = 0;
        private int tried = 0;

        Orders(Stock itsStock, Shapes itsShapes) {
            stock = itsStock;
            shapes = itsShapes;
        }

        int add(int s, int years, int itsPay) {
            shapeOf[size] = s;
            leastYears[size] = years;
            pay[size] = itsPay;
            size++;
            return size - 1;
        }

        boolean want(int s) {
            for (int o = 0; o < size; o++) {
                if (shapeOf[o] == s) {
                    return true;
                }
            }
            return false;
        }

        private boolean doesFor(int k, int o) {
            int s = shapeOf[o];
            return shapes.isOf(s, stock.width[k], stock.height[k])
                    && stock.grain[k] >= shapes.least[s] && stock.years[k] >= leastYears[o];
        }

        int servedBy(int k) {
            int n = 0;
            for (int o = 0; o < size; o++) {
                if (doesFor(k, o)) {
                    n++;
                }
            }
            return n;
        }

        int fill() {
            findSuiting();
            int later = (1 << size) - 1;
            int blocks = (1 << stock.size) - 1;
            int sum = bestSum(later, blocks);
            int rest = sum;
            for (int o = 0; o < size; o++) {
                later &= ~(1 << o);
                given[o] = leastBlock(o, later, blocks, rest);
                if (given[o] != NONE) {
                    blocks &= ~(1 << given[o]);
                    rest -= pay[o];
                }
            }
            return sum;
        }

        private void findSuiting() {
            for (int o = 0; o < size; o++) {
                suiting[o] = 0;
                for (int k = 0; k < stock.size; k++) {
                    if (doesFor(k, o)) {
                        suiting[o] |= 1 << k;
                    }
                }
            }
        }

        private int leastBlock(int o, int later, int blocks, int rest) {
            for (int k = 0; k < stock.size; k++) {
                boolean suits = (suiting[o] & blocks & 1 << k) != 0;
                if (suits && pay[o] + bestSum(later, blocks & ~(1 << k)) == rest) {
                    return k;
                }
            }
            return NONE;
        }

        // A pay hangs on the order alone, not on its block: so taking the best paid order first and
        // keeping it whenever the others kept can make room for it gives the greatest sum.
        private int bestSum(int wanted, int blocks) {
            for (int k = 0; k < MOST_STOCK; k++) {
                holder[k] = NONE;
            }
            free = blocks;
            int sum = 0;
            int left = wanted;
            for (int n = 0; n < MOST_ORDERS && left != 0; n++) {
                int o = bestPaid(left);
                left &= ~(1 << o);
                tried = 0;
                if (makeRoom(o, 0)) {
                    sum += pay[o];
                }
            }
            return sum;
        }

        private int bestPaid(int wanted) {
            int found = 0;
            int highest = 0;
            for (int o = 0; o < size; o++) {
                if ((wanted >> o & 1) == 1 && pay[o] > highest) {
                    found = o;
                    highest = pay[o];
                }
            }
            return found;
        }

        private boolean makeRoom(int o, int depth) {
            if (depth >= MOST_ORDERS) {
                return false;
            }
            for (int k = 0; k < stock.size; k++) {
                int mark = 1 << k;
                if ((suiting[o] & free & mark) == 0 || (tried & mark) != 0) {
                    continue;
                }
                tried |= mark;
                if (holder[k] == NONE || makeRoom(holder[k], depth + 1)) {
                    holder[k] = o;
                    return true;
                }
            }
            return false;
        }

        int givenBlocks() {
            int bits = 0;
            for (int o = 0; o < size; o++) {
                if (given[o] != NONE) {
                    bits |= 1 << given[o];
                }
            }
            return bits;
        }

        void removeFilled() {
            int old = size;
            size = 0;
            for (int o = 0; o < old; o++) {
                if (given[o] == NONE) {
                    add(shapeOf[o], leastYears[o], pay[o]);
                }
            }
        }
    }

    private static final class Pipes {
        final int[] lots = new int[MOST_PIPES];
        final int[] grades = new int[MOST_PIPES];
        final int[] agree = new int[MOST_PIPES];
        final int[] stamps = new int[MOST_PIPES];
        final int[] drifts = new int[MOST_PIPES];
        final int[] names = new int[MOST_PIPES];
        int size = 0;

        int add(int lot, int itsStamps, int drift, int name) {
            lots[size] = lot;
            stamps[size] = itsStamps;
            drifts[size] = drift;
            names[size] = name;
            size++;
            return size - 1;
        }

        void judge(int p, int a, int b, int c) {
            int greatest = Math.max(a, Math.max(b, c));
            int least = Math.min(a, Math.min(b, c));
            grades[p] = a + b + c - greatest - least;
            agree[p] = greatest - least <= 1 ? 1 : 0;
        }

        boolean has(int p) {
            return within(p, 0, size - 1);
        }

        int howMany(int l) {
            int n = 0;
            for (int p = 0; p < size; p++) {
                if (lots[p] == l) {
                    n++;
                }
            }
            return n;
        }

        int sumIn(int[] row, int l) {
            int sum = 0;
            for (int p = 0; p < size; p++) {
                if (lots[p] == l) {
                    sum += row[p];
                }
            }
            return sum;
        }

        private int distanceOff(int l) {
            return Math.abs(sumIn(drifts, l));
        }

        boolean isOff(int l, int limit) {
            int n = howMany(l);
            return n >= 2 && distanceOff(l) > limit * n;
        }

        // Crosswise, so that what comes on each pipe is compared without a division.
        boolean isWorse(int l, int other) {
            return distanceOff(l) * howMany(other) > distanceOff(other) * howMany(l);
        }

        int longestRun(int l) {
            int longest = 0;
            int above = 0;
            int below = 0;
            for (int p = 0; p < size; p++) {
                if (lots[p] == l) {
                    above = drifts[p] > 0 ? above + 1 : 0;
                    below = drifts[p] < 0 ? below + 1 : 0;
                    longest = Math.max(longest, Math.max(above, below));
                }
            }
            return longest;
        }
    }

    private static final class Laws {
        /** Below every grade that a name may ask for: with it one goes on to the last name. */
        static final int NO_GRADE = -1;
        private static final int UNTOLD_LIMIT = 5;

        final int[] from = new int[STAMPS];
        final int[] to = new int[STAMPS];
        final int[] barred = new int[STAMPS];
        final int[] least = new int[NAMES];
        final int[] second = new int[NAMES];
        int limit = 0;
        int size = 0;
        private int stampsTold = 0;
        private int leastsTold = 0;
        boolean limitTold = false;

        Laws() {
            forget();
        }

        void forget() {
            for (int s = 0; s < STAMPS; s++) {
                from[s] = FIRST_YEAR;
                to[s] = LAST_YEAR;
                barred[s] = 0;
            }
            for (int n = 0; n < NAMES; n++) {
                least[n] = 0;
                second[n] = NONE;
            }
            limit = UNTOLD_LIMIT;
            size = 0;
            stampsTold = 0;
            leastsTold = 0;
            limitTold = false;
        }

        boolean hasStamp(int s) {
            return (stampsTold >> s & 1) == 1;
        }

        boolean hasLeast(int n) {
            return (leastsTold >> n & 1) == 1;
        }

        boolean hasSecond(int n) {
            return second[n] != NONE;
        }

        void tellStamp(int s, int first, int last) {
            from[s] = first;
            to[s] = last;
            stampsTold |= 1 << s;
        }

        void tellBar(int a, int b) {
            barred[a] |= 1 << b;
            barred[b] |= 1 << a;
        }

        void tellLimit(int itsLimit) {
            limit = itsLimit;
            limitTold = true;
        }

        void tellLeast(int n, int grade) {
            least[n] = grade;
            leastsTold |= 1 << n;
        }

        boolean leadsTo(int start, int goal) {
            int n = start;
            for (int i = 0; i < NAMES && n != NONE; i++) {
                if (n == goal) {
                    return true;
                }
                n = second[n];
            }
            return false;
        }

        int seller(int name, int grade) {
            int n = name;
            for (int i = 0; i < NAMES && n != NONE; i++) {
                if (grade >= least[n]) {
                    return n;
                }
                n = second[n];
            }
            return NONE;
        }

        int stepsToSell(int name, int grade) {
            int n = name;
            int steps = 0;
            for (int i = 0; i < NAMES; i++) {
                if (grade >= least[n] || second[n] == NONE) {
                    return steps;
                }
                n = second[n];
                steps++;
            }
            return steps;
        }

        int firstYear(int stamps) {
            int first = FIRST_YEAR;
            for (int s = 0; s < STAMPS; s++) {
                if ((stamps >> s & 1) == 1) {
                    first = Math.max(first, from[s]);
                }
            }
            return first;
        }

        int lastYear(int stamps) {
            int last = LAST_YEAR;
            for (int s = 0; s < STAMPS; s++) {
                if ((stamps >> s & 1) == 1) {
                    last = Math.min(last, to[s]);
                }
            }
            return last;
        }

        private boolean clash(int stamps) {
            for (int s = 0; s < STAMPS; s++) {
                if ((stamps >> s & 1) == 1 && (barred[s] & stamps) != 0) {
                    return true;
                }
            }
            return false;
        }

        int yearCount(int stamps) {
            return clash(stamps) ? 0 : Math.max(0, lastYear(stamps) - firstYear(stamps) + 1);
        }

        boolean mayBeOf(int stamps, int year) {
            return !clash(stamps) && within(year, firstYear(stamps), lastYear(stamps));
        }
    }

    /** The tape's bytes and, after split(), its tokens; the last of them is the tape's end. */
    private static final class Tape {
        static final int ROOM = 200;
        static final int TAPE_END = 0, NO_TOKEN = 1, LETTER = 2, NUMBER = 3, SEMICOLON = 4;
        static final int STAMP_WORD = 5, BAR_WORD = 6, LIMIT_WORD = 7, LEAST_WORD = 8, SECOND_WORD = 9;
        private static final int MOST_FIGURES = 4;

        private final int[] bytes = new int[ROOM];
        int length = 0;
        final int[] kinds = new int[ROOM + 1];
        final int[] values = new int[ROOM + 1];
        final int[] starts = new int[ROOM + 1];
        int tokens = 0;

        void append(long v) {
            for (int shift = 56; shift >= 0 && length < ROOM; shift -= 8) {
                bytes[length] = (int) (v >> shift & 255L);
                length++;
            }
        }

        // What is no token is noted as one of that kind: it is a fault only if the reader comes so far.
        void split() {
            tokens = 0;
            int i = 0;
            for (int n = 0; n < ROOM && i < length; n++) {
                int behind = endOfToken(i);
                if (bytes[i] != ' ') {
                    note(kindOf(i, behind), valueOf(i, behind), i);
                }
                i = behind;
            }
            note(TAPE_END, 0, length);
        }

        private void note(int kind, int value, int start) {
            kinds[tokens] = kind;
            values[tokens] = value;
            starts[tokens] = start;
            tokens++;
        }

        private int endOfToken(int start) {
            int behind = start + 1;
            if (within(bytes[start], '0', '9')) {
                while (behind < length && within(bytes[behind], '0', '9')) {
                    behind++;
                }
            }
            if (within(bytes[start], 'a', 'z')) {
                while (behind < length && within(bytes[behind], 'a', 'z')) {
                    behind++;
                }
            }
            return behind;
        }

        private int kindOf(int start, int behind) {
            int first = bytes[start];
            if (within(first, 'A', 'H')) {
                return LETTER;
            }
            if (within(first, '0', '9')) {
                return behind - start > MOST_FIGURES ? NO_TOKEN : NUMBER;
            }
            if (within(first, 'a', 'z')) {
                return wordKind(start, behind);
            }
            return first == ';' ? SEMICOLON : NO_TOKEN;
        }

        private int wordKind(int start, int behind) {
            return spells("stamp", start, behind) ? STAMP_WORD
                    : spells("bar", start, behind) ? BAR_WORD
                    : spells("limit", start, behind) ? LIMIT_WORD
                    : spells("least", start, behind) ? LEAST_WORD
                    : spells("second", start, behind) ? SECOND_WORD
                    : NO_TOKEN;
        }

        private boolean spells(String word, int start, int behind) {
            if (behind - start != word.length()) {
                return false;
            }
            for (int i = 0; i < word.length(); i++) {
                if (bytes[start + i] != word.charAt(i)) {
                    return false;
                }
            }
            return true;
        }

        private int valueOf(int start, int behind) {
            if (within(bytes[start], 'A', 'H')) {
                return bytes[start] - 'A';
            }
            int value = 0;
            for (int i = start; i < behind && within(bytes[i], '0', '9'); i++) {
                value = value * 10 + bytes[i] - '0';
            }
            return value;
        }
    }

    /** Reads the tape's laws; each method answers whether it met no fault. */
    private static final class LawReader {
        private static final int LEXICAL = 1, MISPLACED = 2, OUT_OF_BOUNDS = 3, TOLD_ALREADY = 4, ROUND = 5;

        private final Tape tape;
        private int next = 0;
        private int kind = Tape.TAPE_END;
        private int value = 0;
        private int start = 0;
        int fault = 0;
        int place = 0;

        LawReader(Tape itsTape) {
            tape = itsTape;
        }

        void read(Laws into) {
            into.forget();
            fault = 0;
            place = 0;
            next = 0;
            tape.split();
            boolean more = true;
            // A law takes some bytes of the tape, so there can't be more laws than bytes.
            for (int n = 0; n <= Tape.ROOM && more; n++) {
                more = readLaw(into);
            }
        }

        private boolean readLaw(Laws draft) {
            advance();
            if (kind == Tape.TAPE_END) {
                return false;
            }
            boolean fine;
            switch (kind) {
                case Tape.STAMP_WORD: fine = readStamp(draft); break;
                case Tape.BAR_WORD: fine = readBar(draft); break;
                case Tape.LIMIT_WORD: fine = readLimit(draft); break;
                case Tape.LEAST_WORD: fine = readLeast(draft); break;
                case Tape.SECOND_WORD: fine = readSecond(draft); break;
                case Tape.NO_TOKEN: fine = fail(LEXICAL); break;
                default: fine = fail(MISPLACED);
            }
            if (!fine || !expect(Tape.SEMICOLON)) {
                return false;
            }
            draft.size++;
            return true;
        }

        private boolean readStamp(Laws draft) {
            if (!expectNumber(0, STAMPS - 1)) {
                return false;
            }
            int s = value;
            if (draft.hasStamp(s)) {
                return fail(TOLD_ALREADY);
            }
            if (!expectNumber(FIRST_YEAR, LAST_YEAR)) {
                return false;
            }
            int first = value;
            if (!expectNumber(first, LAST_YEAR)) {
                return false;
            }
            draft.tellStamp(s, first, value);
            return true;
        }

        private boolean readBar(Laws draft) {
            if (!expectNumber(0, STAMPS - 1)) {
                return false;
            }
            int a = value;
            if (!expectNumber(0, STAMPS - 1)) {
                return false;
            }
            if (value == a) {
                return fail(OUT_OF_BOUNDS);
            }
            draft.tellBar(a, value);
            return true;
        }

        private boolean readLimit(Laws draft) {
            if (draft.limitTold) {
                return fail(TOLD_ALREADY);
            }
            if (!expectNumber(0, TOP_LIMIT)) {
                return false;
            }
            draft.tellLimit(value);
            return true;
        }

        private boolean readLeast(Laws draft) {
            if (!expect(Tape.LETTER)) {
                return false;
            }
            int n = value;
            if (draft.hasLeast(n)) {
                return fail(TOLD_ALREADY);
            }
            if (!expectNumber(0, TOP_GRADE)) {
                return false;
            }
            draft.tellLeast(n, value);
            return true;
        }

        private boolean readSecond(Laws draft) {
            if (!expect(Tape.LETTER)) {
                return false;
            }
            int n = value;
            if (draft.hasSecond(n)) {
                return fail(TOLD_ALREADY);
            }
            if (!expect(Tape.LETTER)) {
                return false;
            }
            if (draft.leadsTo(value, n)) {
                return fail(ROUND);
            }
            draft.second[n] = value;
            return true;
        }

        // The tape's end is never gone beyond: it is found there again and again.
        private void advance() {
            kind = tape.kinds[next];
            value = tape.values[next];
            start = tape.starts[next];
            if (next < tape.tokens - 1) {
                next++;
            }
        }

        private boolean expect(int due) {
            advance();
            if (kind == Tape.NO_TOKEN) {
                return fail(LEXICAL);
            }
            return kind == due || fail(MISPLACED);
        }

        private boolean expectNumber(int low, int high) {
            return expect(Tape.NUMBER) && (within(value, low, high) || fail(OUT_OF_BOUNDS));
        }

        private boolean fail(int itsFault) {
            fault = itsFault;
            place = start;
            return false;
        }
    }

    /** A row of cells of one lane; the cells stand ready for the longest row. */
    private static final class Sheet {
        private static final int NOTHING = -1, BYTES = 0, SHORTS = 1;

        int lane = NOTHING;
        int size = 0;
        final int[] cells = new int[MOST_CELLS];

        void renew(int itsLane, int n) {
            lane = itsLane;
            size = n;
            for (int i = 0; i < MOST_CELLS; i++) {
                cells[i] = 0;
            }
        }

        boolean isNothing() {
            return lane == NOTHING;
        }

        boolean has(int i) {
            return within(i, 0, size - 1);
        }

        void put(int i, int v) {
            cells[i] = lane == BYTES ? (byte) v : lane == SHORTS ? (short) v : v;
        }
    }
}
