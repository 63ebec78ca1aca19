import java.nio.charset.StandardCharsets;
import java.util.ArrayDeque;
import java.util.ArrayList;
import java.util.Arrays;
import java.util.Collections;
import java.util.Deque;
import java.util.HashMap;
import java.util.List;
import java.util.Map;
import java.util.regex.Matcher;
import java.util.regex.Pattern;

/** The document once more, as plainly as can be and by other ways than the class, for RandomRunsTest. */
final class PlainModel {
    private record Burl(int w, int h, boolean[][] crack, int[][] grain) { }
    private record Shape(int w, int h, int price, int least, boolean turned) { }
    private record Stored(int w, int h, int grain, int age) { }
    private record Order(int shape, int age, int pay) { }
    private record Pipe(int lot, int[] grades, int stamps, int drift, int name) { }
    private record Block(int x, int y, int w, int h) { }

    private Burl burl = new Burl(4, 4, new boolean[4][4], new int[4][4]);
    private final Deque<Burl> acts = new ArrayDeque<>();
    private final List<Shape> shapes = new ArrayList<>();
    private final List<boolean[][]> worlds = new ArrayList<>();
    private List<Stored> stock = new ArrayList<>();
    private List<Order> orders = new ArrayList<>();
    private final List<Pipe> pipes = new ArrayList<>();
    private byte[] tape = {};
    private PlainLaws held = new PlainLaws();
    private int fault = 0;
    private final long[][] sheets = new long[4][];
    private final int[] lanes = new int[4];

    private static boolean in(int v, int a, int b) {
        return a <= v && v <= b;
    }

    private boolean isSquare(int x, int y) {
        return in(x, 0, burl.w - 1) && in(y, 0, burl.h - 1);
    }

    private boolean isBlock(long x, long y, long w, long h) {
        return x >= 0 && y >= 0 && w >= 1 && h >= 1 && x + w <= burl.w && y + h <= burl.h;
    }

    private void act() {
        acts.addLast(burl);
        if (acts.size() > 8) {
            acts.removeFirst();
        }
        burl = copy();
    }

    private Burl copy() {
        boolean[][] crack = new boolean[burl.w][];
        int[][] grain = new int[burl.w][];
        for (int x = 0; x < burl.w; x++) {
            crack[x] = burl.crack[x].clone();
            grain[x] = burl.grain[x].clone();
        }
        return new Burl(burl.w, burl.h, crack, grain);
    }

    int burl(int w, int h) {
        if (!in(w, 1, 8) || !in(h, 1, 8)) {
            return -1;
        }
        burl = new Burl(w, h, new boolean[w][h], new int[w][h]);
        acts.clear();
        worlds.clear();
        return 1;
    }

    int crack(int x, int y, boolean is) {
        if (!isSquare(x, y)) {
            return -1;
        }
        act();
        int had = burl.crack[x][y] ? 1 : 0;
        burl.crack[x][y] = is;
        return had;
    }

    int grain(int x, int y, int v) {
        if (!isSquare(x, y) || !in(v, 0, 9)) {
            return -1;
        }
        act();
        int was = burl.grain[x][y];
        burl.grain[x][y] = v;
        return was;
    }

    int shape(int w, int h, int price, int least, boolean turned) {
        if (!in(w, 1, 8) || !in(h, 1, 8) || !in(price, 1, 500) || !in(least, 0, 9)) {
            return -1;
        }
        if (shapes.size() == 8) {
            return -3;
        }
        shapes.add(new Shape(w, h, price, least, turned));
        return shapes.size() - 1;
    }

    int drop() {
        int last = shapes.size() - 1;
        if (last < 0) {
            return -4;
        }
        if (orders.stream().anyMatch(o -> o.shape == last)) {
            return -2;
        }
        shapes.remove(last);
        return last;
    }

    private static boolean isOf(Shape s, int w, int h) {
        return s.w == w && s.h == h || s.turned && s.w == h && s.h == w;
    }

    private boolean fitsIn(Block b, Shape s, boolean[][] more) {
        if (!isOf(s, b.w, b.h)) {
            return false;
        }
        for (int x = b.x; x < b.x + b.w; x++) {
            for (int y = b.y; y < b.y + b.h; y++) {
                if (burl.crack[x][y] || more != null && more[x][y] || burl.grain[x][y] < s.least) {
                    return false;
                }
            }
        }
        return true;
    }

    int fits(int x, int y, int w, int h, int s) {
        if (!isBlock(x, y, w, h) || !in(s, 0, shapes.size() - 1)) {
            return -1;
        }
        return fitsIn(new Block(x, y, w, h), shapes.get(s), null) ? 1 : 0;
    }

    int open() {
        int bits = 0;
        for (int s = 0; s < shapes.size(); s++) {
            for (int at = 0; at < 4096; at++) {
                if (fits(at & 7, at >> 3 & 7, (at >> 6 & 7) + 1, (at >> 9 & 7) + 1, s) == 1) {
                    bits |= 1 << s;
                }
            }
        }
        return bits;
    }

    /** A way to saw: what a shape brings on a block is the sum over the cracks of each view. */
    private final class Sawing {
        final List<boolean[][]> views;
        final Map<Block, Integer> known = new HashMap<>();
        int pipes = 0;
        int cuts = 0;
        int waste = 0;
        final int[] of = new int[8];

        Sawing(List<boolean[][]> itsViews) {
            views = itsViews;
        }

        int brings(Block b, Shape s) {
            int sum = 0;
            for (boolean[][] view : views) {
                sum += fitsIn(b, s, view) ? s.price : 0;
            }
            return sum;
        }

        int most(Block b) {
            Integer old = known.get(b);
            if (old != null) {
                return old;
            }
            int value = 0;
            for (Shape s : shapes) {
                value = Math.max(value, brings(b, s));
            }
            for (int k = 1; k < b.w; k++) {
                value = Math.max(value, most(left(b, k)) + most(right(b, k)));
            }
            for (int k = 1; k < b.h; k++) {
                value = Math.max(value, most(upper(b, k)) + most(lower(b, k)));
            }
            known.put(b, value);
            return value;
        }

        int deed(Block b) {
            int value = most(b);
            for (int s = 0; s < shapes.size() && value > 0; s++) {
                if (brings(b, shapes.get(s)) == value) {
                    return s;
                }
            }
            if (value == 0) {
                return -5;
            }
            for (int k = 1; k < b.w; k++) {
                if (most(left(b, k)) + most(right(b, k)) == value) {
                    return 100 + k;
                }
            }
            for (int k = 1; k < b.h; k++) {
                if (most(upper(b, k)) + most(lower(b, k)) == value) {
                    return 200 + k;
                }
            }
            throw new IllegalStateException("no way to have " + value);
        }

        void saw(Block b) {
            int deed = deed(b);
            if (deed == -5) {
                waste += b.w * b.h;
            } else if (deed < 100) {
                pipes++;
                of[deed]++;
            } else {
                cuts++;
                saw(deed < 200 ? left(b, deed - 100) : upper(b, deed - 200));
                saw(deed < 200 ? right(b, deed - 100) : lower(b, deed - 200));
            }
        }
    }

    private static Block left(Block b, int k) {
        return new Block(b.x, b.y, k, b.h);
    }

    private static Block right(Block b, int k) {
        return new Block(b.x + k, b.y, b.w - k, b.h);
    }

    private static Block upper(Block b, int k) {
        return new Block(b.x, b.y, b.w, k);
    }

    private static Block lower(Block b, int k) {
        return new Block(b.x, b.y + k, b.w, b.h - k);
    }

    private Sawing plain() {
        return new Sawing(Collections.singletonList(new boolean[8][8]));
    }

    private Block all() {
        return new Block(0, 0, burl.w, burl.h);
    }

    int most(int x, int y, int w, int h) {
        return isBlock(x, y, w, h) ? plain().most(new Block(x, y, w, h)) : -1;
    }

    int cut(int x, int y, int w, int h) {
        return isBlock(x, y, w, h) ? plain().deed(new Block(x, y, w, h)) : -1;
    }

    int sawn(int what) {
        Sawing sawing = plain();
        sawing.saw(all());
        switch (what) {
            case 0: return sawing.most(all());
            case 1: return sawing.pipes;
            case 2: return sawing.cuts;
            case 3: return sawing.waste;
            default: return what >= 10 && what < 10 + shapes.size() ? sawing.of[what - 10] : -1;
        }
    }

    int costs(int x, int y) {
        if (!isSquare(x, y)) {
            return -1;
        }
        boolean[][] more = new boolean[8][8];
        more[x][y] = true;
        return plain().most(all()) - new Sawing(Collections.singletonList(more)).most(all());
    }

    int undo() {
        if (acts.isEmpty()) {
            return -4;
        }
        burl = acts.removeLast();
        return acts.size();
    }

    int world() {
        if (worlds.size() == 4) {
            return -3;
        }
        worlds.add(new boolean[8][8]);
        return worlds.size() - 1;
    }

    int doubt(int world, int x, int y, boolean is) {
        if (!in(world, 0, worlds.size() - 1) || !isSquare(x, y)) {
            return -1;
        }
        int had = worlds.get(world)[x][y] ? 1 : 0;
        worlds.get(world)[x][y] = is;
        return had;
    }

    int choose(int what) {
        if (!in(what, 0, 5)) {
            return -1;
        }
        if (worlds.isEmpty()) {
            return -2;
        }
        int[] each = worlds.stream().mapToInt(v -> new Sawing(Collections.singletonList(v)).most(all())).sorted().toArray();
        Sawing early = new Sawing(worlds);
        int[] answers = {Arrays.stream(each).sum(), early.most(all()),
            Arrays.stream(each).sum() - early.most(all()), early.deed(all()), each[0], each[each.length - 1]};
        return answers[what];
    }

    int store(int w, int h, int grain, int age) {
        if (!in(w, 1, 8) || !in(h, 1, 8) || !in(grain, 0, 9) || !in(age, 0, 99)) {
            return -1;
        }
        if (stock.size() == 12) {
            return -3;
        }
        stock.add(new Stored(w, h, grain, age));
        return stock.size() - 1;
    }

    private boolean does(Stored b, Order o) {
        Shape s = shapes.get(o.shape);
        return isOf(s, b.w, b.h) && b.grain >= s.least && b.age >= o.age;
    }

    int stored(int k, int what) {
        if (!in(k, 0, stock.size() - 1) || !in(what, 0, 4)) {
            return -1;
        }
        Stored b = stock.get(k);
        return new int[] {b.w, b.h, b.grain, b.age, (int) orders.stream().filter(o -> does(b, o)).count()}[what];
    }

    int age() {
        stock.replaceAll(b -> new Stored(b.w, b.h, b.grain, Math.min(99, b.age + 1)));
        return stock.size();
    }

    int order(int shape, int age, int pay) {
        if (!in(shape, 0, shapes.size() - 1) || !in(age, 0, 99) || !in(pay, 1, 1000)) {
            return -1;
        }
        if (orders.size() == 8) {
            return -3;
        }
        orders.add(new Order(shape, age, pay));
        return orders.size() - 1;
    }

    // The greatest sum by all ways to give the blocks, order by order.
    private int bestFrom(int o, int used, Map<Integer, Integer> known) {
        if (o == orders.size()) {
            return 0;
        }
        Integer old = known.get(o << 12 | used);
        if (old != null) {
            return old;
        }
        int best = bestFrom(o + 1, used, known);
        for (int k = 0; k < stock.size(); k++) {
            if ((used >> k & 1) == 0 && does(stock.get(k), orders.get(o))) {
                best = Math.max(best, orders.get(o).pay + bestFrom(o + 1, used | 1 << k, known));
            }
        }
        known.put(o << 12 | used, best);
        return best;
    }

    private int[] fill() {
        Map<Integer, Integer> known = new HashMap<>();
        int[] given = new int[orders.size()];
        int used = 0;
        for (int o = 0; o < given.length; o++) {
            int best = bestFrom(o, used, known);
            given[o] = -4;
            for (int k = stock.size() - 1; k >= 0; k--) {
                if ((used >> k & 1) == 0 && does(stock.get(k), orders.get(o))
                        && orders.get(o).pay + bestFrom(o + 1, used | 1 << k, known) == best) {
                    given[o] = k;
                }
            }
            used |= given[o] < 0 ? 0 : 1 << given[o];
        }
        return given;
    }

    private int paid(int[] given) {
        int sum = 0;
        for (int o = 0; o < given.length; o++) {
            sum += given[o] < 0 ? 0 : orders.get(o).pay;
        }
        return sum;
    }

    int filled(int what) {
        int[] given = fill();
        if (what == 0) {
            return paid(given);
        }
        if (what == 1) {
            return (int) Arrays.stream(given).filter(k -> k >= 0).count();
        }
        return in(what, 10, 9 + given.length) ? given[what - 10] : -1;
    }

    int deliver() {
        int[] given = fill();
        int sum = paid(given);
        List<Stored> blocks = new ArrayList<>();
        List<Order> rest = new ArrayList<>();
        for (int k = 0; k < stock.size(); k++) {
            int block = k;
            if (Arrays.stream(given).noneMatch(g -> g == block)) {
                blocks.add(stock.get(k));
            }
        }
        for (int o = 0; o < given.length; o++) {
            if (given[o] < 0) {
                rest.add(orders.get(o));
            }
        }
        stock = blocks;
        orders = rest;
        return sum;
    }

    int gains(int s, int p) {
        if (!in(s, 0, shapes.size() - 1) || !in(p, 1, 500)) {
            return -1000000;
        }
        int before = plain().most(all());
        Shape own = shapes.get(s);
        shapes.set(s, new Shape(own.w, own.h, p, own.least, own.turned));
        int after = plain().most(all());
        shapes.set(s, own);
        return after - before;
    }

    int pipe(int lot, int a, int b, int c, int stamps, int drift, int name) {
        if (!in(lot, 0, 5) || !in(a, 0, 5) || !in(b, 0, 5) || !in(c, 0, 5) || !in(stamps, 0, 255)
                || !in(drift, -50, 50) || !in(name, 0, 7)) {
            return -1;
        }
        if (pipes.size() == 12) {
            return -3;
        }
        int[] grades = {a, b, c};
        Arrays.sort(grades);
        pipes.add(new Pipe(lot, grades, stamps, drift, name));
        return pipes.size() - 1;
    }

    private static boolean agree(Pipe p) {
        return p.grades[2] <= p.grades[0] + 1;
    }

    // The names that it goes through, the last of them the one under which it is sold, or -4.
    private List<Integer> way(Pipe p) {
        List<Integer> way = new ArrayList<>();
        int n = p.name;
        while (n >= 0) {
            way.add(n);
            if (p.grades[1] >= held.least[n]) {
                return way;
            }
            n = held.second[n];
        }
        way.add(-4);
        return way;
    }

    int told(int p, int what) {
        if (!in(p, 0, pipes.size() - 1) || !in(what, 0, 7)) {
            return -100;
        }
        Pipe pipe = pipes.get(p);
        List<Integer> way = way(pipe);
        int seller = way.get(way.size() - 1);
        return new int[] {pipe.lot, pipe.grades[1], agree(pipe) ? 1 : 0, pipe.stamps, pipe.drift, pipe.name,
            seller, way.size() - (seller < 0 ? 2 : 1)}[what];
    }

    int feed(long v) {
        if (tape.length > 192) {
            return -3;
        }
        byte[] longer = Arrays.copyOf(tape, tape.length + 8);
        for (int i = 0; i < 8; i++) {
            longer[tape.length + i] = (byte) (v >>> (56 - 8 * i));
        }
        tape = longer;
        return tape.length;
    }

    int end(int n) {
        if (!in(n, 0, tape.length)) {
            return -1;
        }
        int had = tape.length;
        tape = Arrays.copyOf(tape, n);
        return had;
    }

    int laws() {
        PlainLaws fresh = new PlainLaws();
        int place = fresh.read(new String(tape, StandardCharsets.ISO_8859_1));
        tape = new byte[0];
        fault = fresh.fault;
        if (fault != 0) {
            return -10 - place;
        }
        held = fresh;
        return held.told;
    }

    int fault() {
        return fault;
    }

    int stamp(int s, int what) {
        if (!in(s, 0, 7) || !in(what, 0, 2)) {
            return -1;
        }
        return new int[] {held.from[s], held.to[s], held.bars[s]}[what];
    }

    int name(int n, int what) {
        if (!in(n, 0, 7) || !in(what, 0, 2)) {
            return -1;
        }
        int steps = 0;
        for (int m = held.second[n]; m >= 0; m = held.second[m]) {
            steps++;
        }
        return new int[] {held.least[n], held.second[n], steps}[what];
    }

    private int[] yearsOf(Pipe p) {
        List<Integer> all = new ArrayList<>();
        for (int year = 1800; year <= 2000; year++) {
            boolean may = true;
            for (int s = 0; s < 8; s++) {
                if ((p.stamps >> s & 1) == 1) {
                    may &= held.from[s] <= year && year <= held.to[s] && (held.bars[s] & p.stamps) == 0;
                }
            }
            if (may) {
                all.add(year);
            }
        }
        return all.stream().mapToInt(y -> y).toArray();
    }

    int years(int p, int what) {
        if (!in(p, 0, pipes.size() - 1) || !in(what, 0, 2)) {
            return -1;
        }
        int[] all = yearsOf(pipes.get(p));
        return what == 0 ? all.length : all.length == 0 ? -4 : what == 1 ? all[0] : all[all.length - 1];
    }

    int dated(int year) {
        if (!in(year, 1800, 2000)) {
            return -1;
        }
        return (int) pipes.stream().filter(p -> Arrays.stream(yearsOf(p)).anyMatch(y -> y == year)).count();
    }

    private int[] driftsOf(int l) {
        return pipes.stream().filter(p -> p.lot == l).mapToInt(Pipe::drift).toArray();
    }

    private boolean off(int l) {
        int[] drifts = driftsOf(l);
        return drifts.length >= 2 && Math.abs(Arrays.stream(drifts).sum()) > held.limit * drifts.length;
    }

    private int run(int l) {
        int[] drifts = driftsOf(l);
        int most = 0;
        for (int i = 0; i < drifts.length; i++) {
            for (int j = i; j < drifts.length; j++) {
                int[] part = Arrays.copyOfRange(drifts, i, j + 1);
                if (Arrays.stream(part).allMatch(d -> d > 0) || Arrays.stream(part).allMatch(d -> d < 0)) {
                    most = Math.max(most, part.length);
                }
            }
        }
        return most;
    }

    int lot(int l, int what) {
        if (!in(l, 0, 5) || !in(what, 0, 5)) {
            return -10000;
        }
        List<Pipe> all = pipes.stream().filter(p -> p.lot == l).toList();
        return new int[] {all.size(), Arrays.stream(driftsOf(l)).sum(), all.stream().mapToInt(p -> p.grades[1]).sum(),
            (int) all.stream().filter(PlainModel::agree).count(), off(l) ? 1 : 0, run(l)}[what];
    }

    int worst() {
        int worst = -4;
        double greatest = 0;
        for (int l = 0; l < 6; l++) {
            double by = Math.abs(Arrays.stream(driftsOf(l)).average().orElse(0));
            if (off(l) && by > greatest + 1e-9) {
                worst = l;
                greatest = by;
            }
        }
        return worst;
    }

    int sheet(int k, int lane, int n) {
        if (!in(k, 0, 3) || !in(lane, 0, 2) || n > 64) {
            return -1;
        }
        if (n < 0) {
            return -14;
        }
        sheets[k] = new long[n];
        lanes[k] = lane;
        return 1;
    }

    int lay(int k, int i, int v) {
        if (!in(k, 0, 3)) {
            return -1;
        }
        if (sheets[k] == null) {
            return -11;
        }
        if (!in(i, 0, sheets[k].length - 1)) {
            return -12;
        }
        sheets[k][i] = v & new long[] {255, 65535, 4294967295L}[lanes[k]];
        return 1;
    }

    int draw(int k, int lane, int f) {
        if (!in(k, 0, 3) || !in(lane, 0, 2)) {
            return -1;
        }
        if (sheets[k] == null || lanes[k] != lane) {
            return sheets[k] == null ? -11 : -13;
        }
        Burl drawn = new Burl(burl.w, burl.h, new boolean[burl.w][burl.h], new int[burl.w][burl.h]);
        int cracks = 0;
        for (int i = 0; i < burl.w * burl.h; i++) {
            long at = (long) f + i;
            if (at < 0 || at >= sheets[k].length) {
                return -12;
            }
            long cell = sheets[k][(int) at];
            if (cell > 10) {
                return -100 - i;
            }
            drawn.crack[i % burl.w][i / burl.w] = cell == 10;
            drawn.grain[i % burl.w][i / burl.w] = (int) cell % 10;
            cracks += cell == 10 ? 1 : 0;
        }
        act();
        burl = drawn;
        return cracks;
    }

    int count(int what) {
        int cracks = 0;
        for (boolean[] column : burl.crack) {
            for (boolean is : column) {
                cracks += is ? 1 : 0;
            }
        }
        int off = 0;
        for (int l = 0; l < 6; l++) {
            off += off(l) ? 1 : 0;
        }
        int soldOn = 0;
        for (Pipe p : pipes) {
            int seller = way(p).get(way(p).size() - 1);
            soldOn += seller >= 0 && seller != p.name ? 1 : 0;
        }
        int[] all = {shapes.size(), pipes.size(), cracks, burl.w * burl.h, off,
            sheets[0] == null ? -4 : sheets[0].length, worlds.size(), stock.size(), orders.size(), acts.size(),
            held.told, held.limit, soldOn};
        return in(what, 0, 12) ? all[what] : -1;
    }

    /** The laws of a tape, read by patterns: each law is a row of token patterns. */
    private static final class PlainLaws {
        private static final Pattern TOKEN = Pattern.compile("[a-z]+|[A-H]|[0-9]+|;");
        final int[] from = new int[8];
        final int[] to = new int[8];
        final int[] bars = new int[8];
        final int[] least = new int[8];
        final int[] second = new int[8];
        final List<String> done = new ArrayList<>();
        int limit = 5;
        int told = 0;
        int fault = 0;
        private String text = "";
        private int at = 0;
        private int start = 0;

        PlainLaws() {
            Arrays.fill(from, 1800);
            Arrays.fill(to, 2000);
            Arrays.fill(second, -4);
        }

        /** The place of the fault, if there is one. */
        int read(String itsText) {
            text = itsText;
            while (fault == 0 && !text.substring(at).replace(" ", "").isEmpty()) {
                law();
            }
            return start;
        }

        // The next token if it is of the kind, else null and the fault.
        private String take(String kind) {
            while (at < text.length() && text.charAt(at) == ' ') {
                at++;
            }
            start = at;
            if (at == text.length()) {
                fault = 2;
                return null;
            }
            Matcher m = TOKEN.matcher(text).region(at, text.length());
            if (!m.lookingAt() || m.group().matches("[0-9]{5,}")
                    || m.group().matches("[a-z]+") && !m.group().matches("stamp|bar|limit|least|second")) {
                fault = 1;
                return null;
            }
            if (!m.group().matches(kind)) {
                fault = 2;
                return null;
            }
            at = m.end();
            return m.group();
        }

        private int number(int low, int high) {
            String token = fault == 0 ? take("[0-9]+") : null;
            if (token == null) {
                return 0;
            }
            int v = Integer.parseInt(token);
            if (v < low || v > high) {
                fault = 3;
                return 0;
            }
            return v;
        }

        private int letter() {
            String token = fault == 0 ? take("[A-H]") : null;
            return token == null ? 0 : token.charAt(0) - 'A';
        }

        private void once(String what) {
            if (fault == 0 && done.contains(what)) {
                fault = 4;
            }
            done.add(what);
        }

        private void law() {
            String word = take("[a-z]+");
            if (word == null) {
                return;
            }
            switch (word) {
                case "stamp" -> {
                    int s = number(0, 7);
                    once("stamp " + s);
                    from[s] = number(1800, 2000);
                    to[s] = number(from[s], 2000);
                }
                case "bar" -> {
                    int a = number(0, 7);
                    int b = number(0, 7);
                    if (fault == 0 && a == b) {
                        fault = 3;
                    }
                    bars[a] |= 1 << b;
                    bars[b] |= 1 << a;
                }
                case "limit" -> {
                    once("limit");
                    limit = number(0, 50);
                }
                case "least" -> {
                    int n = letter();
                    once("least " + n);
                    least[n] = number(0, 5);
                }
                default -> {
                    int n = letter();
                    once("second " + n);
                    int m = letter();
                    second[n] = m;
                    int steps = 0;
                    while (fault == 0 && m >= 0 && steps < 9) {
                        m = second[m];
                        steps++;
                    }
                    if (fault == 0 && m >= 0) {
                        fault = 5;
                    }
                }
            }
            if (fault == 0) {
                take(";");
            }
            told += fault == 0 ? 1 : 0;
        }
    }
}
