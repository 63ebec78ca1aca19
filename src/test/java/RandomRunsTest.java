import java.util.Random;

/** Long runs of calls on the class and on PlainModel: each answer must be the same. The runs are always the same. */
public final class RandomRunsTest {
    private static final int MOST_CALLS = 512, MOST_AT_ONCE = 40;
    private static final int[] FAR = {Integer.MIN_VALUE, Integer.MAX_VALUE, -1000, 1000, -10, 100, 13, 65};

    private final Check check = new Check("RandomRunsTest");
    private final Random random;
    private final int bias;
    private final BurlPipes x = new BurlPipes();
    private final PlainModel m = new PlainModel();
    private final StringBuilder log = new StringBuilder();
    private final int[] lanes = {0, 0, 0, 0};
    private int calls = 0;
    private int wide = 4;
    private int high = 4;

    private RandomRunsTest(int seed) {
        random = new Random(seed);
        bias = seed % 6;
    }

    public static void main(String[] args) {
        int runs = args.length > 0 ? Integer.parseInt(args[0]) : 500;
        int clean = 0;
        for (int seed = 0; seed < runs; seed++) {
            clean += new RandomRunsTest(seed).run(seed) ? 1 : 0;
        }
        System.out.println("RandomRunsTest: " + clean + " of " + runs + " runs as due");
        if (clean != runs) {
            System.exit(1);
        }
    }

    private boolean run(int seed) {
        while (calls <= MOST_CALLS - MOST_AT_ONCE && check.isClean()) {
            call();
        }
        if (!check.isClean()) {
            System.out.println("run " + seed + ":" + log);
        }
        return check.isClean();
    }

    // Mostly within the bounds, now and then just beside them or far off.
    private int pick(int low, int high) {
        int way = random.nextInt(60);
        if (way == 0) {
            return FAR[random.nextInt(FAR.length)];
        }
        if (way == 1) {
            return random.nextBoolean() ? low - 1 : high + 1;
        }
        return low + random.nextInt(Math.max(1, high - low + 1));
    }

    private int low(int low, int high) {
        return Math.min(pick(low, high), pick(low, high));
    }

    private void due(int got, int want, String name, Object... args) {
        StringBuilder call = new StringBuilder(" ").append(name).append('(');
        for (int i = 0; i < args.length; i++) {
            call.append(i == 0 ? "" : ", ").append(args[i]);
        }
        log.append(call).append(')');
        calls++;
        check.due(call + ")", got, want);
    }

    private void call() {
        switch (bias == 0 || random.nextInt(4) == 0 ? random.nextInt(5) : bias - 1) {
            case 0: callBurl(); break;
            case 1: callWorlds(); break;
            case 2: callStock(); break;
            case 3: callPipes(); break;
            default: callSheets();
        }
    }

    private void burl() {
        int w = pick(1, 8);
        int h = pick(1, 8);
        due(x.burl(w, h), m.burl(w, h), "burl", w, h);
        if (w >= 1 && w <= 8 && h >= 1 && h <= 8) {
            wide = w;
            high = h;
        }
    }

    private void callBurl() {
        int a = pick(0, wide - 1);
        int b = pick(0, high - 1);
        int w = pick(1, Math.max(1, wide - a));
        int h = pick(1, Math.max(1, high - b));
        boolean is = random.nextInt(3) > 0;
        switch (random.nextInt(24)) {
            case 0: if (random.nextInt(4) == 0) burl(); break;
            case 1: case 2: due(x.crack(a, b, is), m.crack(a, b, is), "crack", a, b, is); break;
            case 3: case 4: case 5: case 6: case 7: grain(a, b, pick(0, 9)); break;
            case 8: case 9: shape(); break;
            case 10: if (random.nextInt(3) == 0) due(x.drop(), m.drop(), "drop"); break;
            case 11: int s = pick(0, 3); due(x.fits(a, b, w, h, s), m.fits(a, b, w, h, s), "fits", a, b, w, h, s); break;
            case 12: fitsSmall(a, b); break;
            case 13: due(x.open(), m.open(), "open"); break;
            case 14: due(x.most(a, b, w, h), m.most(a, b, w, h), "most", a, b, w, h); break;
            case 15: due(x.cut(a, b, w, h), m.cut(a, b, w, h), "cut", a, b, w, h); break;
            case 16: due(x.cut(0, 0, wide, high), m.cut(0, 0, wide, high), "cut", 0, 0, wide, high); break;
            case 17: int k = pick(0, 3); due(x.sawn(k), m.sawn(k), "sawn", k); break;
            case 18: int o = pick(10, 15); due(x.sawn(o), m.sawn(o), "sawn", o); break;
            case 19: due(x.costs(a, b), m.costs(a, b), "costs", a, b); break;
            case 20: int t = pick(0, 3); int p = pick(1, 500); due(x.gains(t, p), m.gains(t, p), "gains", t, p); break;
            case 21: int q = pick(0, 5); int r = pick(1, 20); due(x.gains(q, r), m.gains(q, r), "gains", q, r); break;
            default: if (random.nextInt(3) == 0) due(x.undo(), m.undo(), "undo");
        }
    }

    private void fitsSmall(int a, int b) {
        int w = low(1, 3);
        int h = low(1, 3);
        for (int s = 0; s < 8; s++) {
            due(x.fits(a, b, w, h, s), m.fits(a, b, w, h, s), "fits", a, b, w, h, s);
        }
    }

    private void grain(int a, int b, int v) {
        due(x.grain(a, b, v), m.grain(a, b, v), "grain", a, b, v);
    }

    private void shape() {
        int w = low(1, 4);
        int h = low(1, 4);
        int price = random.nextInt(3) == 0 ? pick(1, 500) : w * h + pick(-1, 2);
        int least = low(0, 4);
        boolean turned = random.nextBoolean();
        due(x.shape(w, h, price, least, turned), m.shape(w, h, price, least, turned), "shape", w, h, price, least, turned);
    }

    private void callWorlds() {
        int a = pick(0, wide - 1);
        int b = pick(0, high - 1);
        int world = pick(0, 3);
        int what = pick(0, 5);
        boolean is = random.nextInt(3) > 0;
        switch (random.nextInt(14)) {
            case 0: due(x.world(), m.world(), "world"); break;
            case 1: case 2: case 3: case 4: case 5: due(x.doubt(world, a, b, is), m.doubt(world, a, b, is), "doubt", world, a, b, is); break;
            case 6: case 7: case 8: due(x.choose(what), m.choose(what), "choose", what); break;
            default: callBurl();
        }
    }

    private void callStock() {
        int w = low(1, 2);
        int h = low(1, 3);
        int grain = pick(0, 9);
        int age = pick(0, 9);
        switch (random.nextInt(14)) {
            case 0: case 1: case 2: due(x.store(w, h, grain, age), m.store(w, h, grain, age), "store", w, h, grain, age); break;
            case 3: int k = pick(0, 11); int what = pick(0, 4); due(x.stored(k, what), m.stored(k, what), "stored", k, what); break;
            case 4: due(x.age(), m.age(), "age"); break;
            case 5: case 6: case 7: int s = pick(0, 3); int pay = random.nextBoolean() ? pick(1, 4) : pick(1, 1000); due(x.order(s, age, pay), m.order(s, age, pay), "order", s, age, pay); break;
            case 8: case 9: case 10: int q = random.nextInt(3) == 0 ? pick(0, 1) : pick(10, 17); due(x.filled(q), m.filled(q), "filled", q); break;
            case 11: if (random.nextInt(3) == 0) due(x.deliver(), m.deliver(), "deliver"); break;
            case 12: stockShape(w, h); break;
            default: due(x.drop(), m.drop(), "drop");
        }
    }

    private void stockShape(int w, int h) {
        int least = low(0, 6);
        boolean turned = random.nextBoolean();
        due(x.shape(w, h, 5, least, turned), m.shape(w, h, 5, least, turned), "shape", w, h, 5, least, turned);
    }

    private void callPipes() {
        int p = pick(0, 11);
        switch (random.nextInt(14)) {
            case 0: pipe(); break;
            case 1: case 2: int t = pick(0, 7); due(x.told(p, t), m.told(p, t), "told", p, t); break;
            case 3: case 4: tape(); break;
            case 5: due(x.fault(), m.fault(), "fault"); break;
            case 6: int s = pick(0, 7); int sw = pick(0, 2); due(x.stamp(s, sw), m.stamp(s, sw), "stamp", s, sw); break;
            case 7: int n = pick(0, 7); int nw = pick(0, 2); due(x.name(n, nw), m.name(n, nw), "name", n, nw); break;
            case 8: case 9: int yw = pick(0, 2); due(x.years(p, yw), m.years(p, yw), "years", p, yw); break;
            case 10: int year = pick(1800, 2000); due(x.dated(year), m.dated(year), "dated", year); break;
            case 11: case 12: int l = pick(0, 5); int lw = pick(0, 5); due(x.lot(l, lw), m.lot(l, lw), "lot", l, lw); break;
            default: due(x.worst(), m.worst(), "worst");
        }
    }

    private void pipe() {
        int lot = low(0, 5);
        int a = pick(0, 5);
        int b = pick(0, 5);
        int c = pick(0, 5);
        int stamps = pick(0, 255) & pick(0, 255);
        int drift = pick(-50, 50);
        int name = pick(0, 7);
        due(x.pipe(lot, a, b, c, stamps, drift, name), m.pipe(lot, a, b, c, stamps, drift, name), "pipe", lot, a, b, c, stamps, drift, name);
    }

    private void tape() {
        StringBuilder text = new StringBuilder();
        int laws = random.nextInt(9);
        for (int i = 0; i < laws; i++) {
            text.append(law()).append(random.nextInt(5) == 0 ? " " : "");
        }
        if (random.nextInt(3) == 0 && text.length() > 0) {
            int at = random.nextInt(text.length());
            String spoilers = " ;AaI0z9\u00ff@-";
            text.setCharAt(at, spoilers.charAt(random.nextInt(spoilers.length())));
        }
        for (int i = 0; i < text.length(); i += 8) {
            long v = 0;
            for (int j = i; j < i + 8; j++) {
                v = v << 8 | (j < text.length() ? text.charAt(j) : ' ');
            }
            due(x.feed(v), m.feed(v), "feed", v);
        }
        int n = random.nextInt(20) == 0 ? pick(0, 200) : text.length();
        due(x.end(n), m.end(n), "end", n);
        if (random.nextInt(10) > 0) {
            due(x.laws(), m.laws(), "laws");
            due(x.fault(), m.fault(), "fault");
        }
    }

    private String law() {
        int from = pick(1800, 2000);
        String a = String.valueOf((char) ('A' + Math.floorMod(pick(0, 7), 10)));
        String b = String.valueOf((char) ('A' + Math.floorMod(pick(0, 7), 10)));
        String[] laws = {"stamp " + pick(0, 7) + " " + from + " " + Math.min(2000, from + random.nextInt(200)) + ";",
            "bar " + pick(0, 7) + " " + pick(0, 7) + ";", "limit " + pick(0, 50) + ";",
            "least " + a + " " + pick(0, 5) + ";", "second " + a + " " + b + ";", "second " + a + b + " ;"};
        return laws[random.nextInt(laws.length)];
    }

    private void callSheets() {
        int k = low(0, 3);
        boolean known = k >= 0 && k <= 3;
        int lane = known && random.nextInt(8) > 0 ? lanes[k] : pick(0, 2);
        switch (random.nextInt(12)) {
            case 0: sheet(k); break;
            case 1: layMany(k); break;
            case 2: case 3: case 4: int f = low(0, 20); due(x.draw(k, lane, f), m.draw(k, lane, f), "draw", k, lane, f); break;
            case 5: if (random.nextInt(4) == 0) burl(); break;
            case 6: due(x.undo(), m.undo(), "undo"); break;
            case 7: callBurl(); break;
            default: int what = pick(0, 12); due(x.count(what), m.count(what), "count", what);
        }
    }

    private void sheet(int k) {
        int lane = pick(0, 2);
        int n = random.nextInt(4) == 0 ? pick(0, 64) : 64;
        int answer = x.sheet(k, lane, n);
        due(answer, m.sheet(k, lane, n), "sheet", k, lane, n);
        if (answer == 1) {
            lanes[k] = lane;
        }
    }

    private void layMany(int k) {
        for (int i = 0; i < 20; i++) {
            int at = pick(0, 63);
            int v = random.nextInt(100) == 0 ? 65536 * pick(-1, 3) + 256 * pick(-1, 3) + 10 : pick(0, 10);
            due(x.lay(k, at, v), m.lay(k, at, v), "lay", k, at, v);
        }
    }
}
