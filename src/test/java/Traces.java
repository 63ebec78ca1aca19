import java.util.ArrayList;
import java.util.List;
import java.util.function.Supplier;

/**
 * What objects answer to all that can be asked of them: two of the same state answer the same. As most of the state
 * is seen only by calls that change it, each probe asks an object of its own, which is made anew by the same calls.
 */
final class Traces {
    private static final int SIDE = 8;

    private final Supplier<BurlPipes> make;
    private final List<String> probes = new ArrayList<>();
    private StringBuilder answers = new StringBuilder();

    private Traces(Supplier<BurlPipes> itsMake) {
        make = itsMake;
    }

    /** A row of answers for each probe, with the probe's name ahead. */
    static List<String> of(Supplier<BurlPipes> make) {
        Traces t = new Traces(make);
        t.askCounts();
        t.askPipes();
        t.askFault();
        t.askLaws("laws", false);
        t.askLaws("tape", true);
        for (int undone = 0; undone <= SIDE; undone++) {
            t.askSquares(undone);
        }
        t.askWorlds();
        for (int s = 0; s < 8; s++) {
            t.askShape(s);
        }
        t.askStock();
        t.askOrders();
        for (int k = 0; k < 4; k++) {
            t.askSheet(k);
        }
        return t.probes;
    }

    private BurlPipes start(String name) {
        answers = new StringBuilder(name).append(':');
        return make.get();
    }

    private void add(long answer) {
        answers.append(' ').append(answer);
    }

    private void close() {
        probes.add(answers.toString());
    }

    private void askCounts() {
        BurlPipes x = start("counts");
        for (int what = 0; what <= 12; what++) {
            add(x.count(what));
        }
        for (int what = 0; what <= 17; what++) {
            add(x.sawn(what));
            add(x.filled(what));
        }
        for (int what = 0; what <= 5; what++) {
            add(x.choose(what));
        }
        add(x.open());
        add(x.worst());
        close();
    }

    private void askPipes() {
        BurlPipes x = start("pipes");
        for (int p = 0; p < 12; p++) {
            for (int what = 0; what <= 7; what++) {
                add(x.told(p, what));
            }
            for (int what = 0; what <= 2; what++) {
                add(x.years(p, what));
            }
        }
        for (int l = 0; l < 6; l++) {
            for (int what = 0; what <= 5; what++) {
                add(x.lot(l, what));
            }
        }
        for (int year = 1800; year <= 2000; year += 10) {
            add(x.dated(year));
        }
        close();
    }

    private void askLaws(String name, boolean readTape) {
        BurlPipes x = start(name);
        if (readTape) {
            add(x.end(0));
            x = make.get();
            add(x.laws());
        }
        for (int n = 0; n < 8; n++) {
            for (int what = 0; what <= 2; what++) {
                add(x.stamp(n, what));
                add(x.name(n, what));
            }
        }
        add(x.count(10));
        add(x.count(11));
        close();
    }

    private void askFault() {
        add(start("fault").fault());
        close();
    }

    private void askSquares(int undone) {
        BurlPipes x = start("squares with " + undone + " acts undone");
        for (int i = 0; i < undone; i++) {
            add(x.undo());
        }
        for (int at = 0; at < SIDE * SIDE; at++) {
            add(x.crack(at % SIDE, at / SIDE, false));
            add(x.grain(at % SIDE, at / SIDE, 0));
        }
        close();
    }

    private void askWorlds() {
        BurlPipes x = start("worlds");
        for (int world = 0; world < 4; world++) {
            for (int at = 0; at < SIDE * SIDE; at++) {
                add(x.doubt(world, at % SIDE, at / SIDE, false));
            }
        }
        add(x.world());
        close();
    }

    private void askShape(int s) {
        BurlPipes x = start("shape " + s);
        x.burl(SIDE, SIDE);
        x.sheet(0, 0, SIDE * SIDE);
        for (int i = 0; i < SIDE * SIDE; i++) {
            x.lay(0, i, 9);
        }
        x.draw(0, 0, 0);
        int size = -1;
        for (int at = 0; at < SIDE * SIDE; at++) {
            int fits = x.fits(0, 0, at % SIDE + 1, at / SIDE + 1, s);
            add(fits);
            size = fits == 1 ? at : size;
        }
        if (size >= 0) {
            askSized(x, s, size % SIDE + 1, size / SIDE + 1);
        }
        close();
    }

    private void askSized(BurlPipes x, int s, int w, int h) {
        for (int v = 0; v <= 9; v++) {
            x.grain(0, 0, v);
            add(x.fits(0, 0, w, h, s));
        }
        x.burl(w, h);
        x.draw(0, 0, 0);
        add(x.gains(s, 500));
        add(x.gains(s, 1));
    }

    private void askStock() {
        BurlPipes x = start("stock");
        for (int k = 0; k < 12; k++) {
            for (int what = 0; what <= 4; what++) {
                add(x.stored(k, what));
            }
        }
        close();
    }

    private void askOrders() {
        BurlPipes x = start("orders");
        for (int year = 0; year < 20; year++) {
            add(x.age());
            for (int o = 0; o < 8; o++) {
                add(x.filled(10 + o));
            }
            add(x.filled(0));
        }
        add(x.deliver());
        add(x.count(7));
        add(x.count(8));
        for (int s = 0; s < 8; s++) {
            add(x.drop());
        }
        close();
    }

    private void askSheet(int k) {
        BurlPipes x = start("sheet " + k);
        x.burl(1, 1);
        int lane = 0;
        for (int i = 0; i < 3; i++) {
            int answer = x.draw(k, i, 0);
            add(answer);
            lane = answer == -13 ? lane : i;
        }
        for (int i = 0; i <= 64; i++) {
            add(x.draw(k, lane, i));
            add(x.grain(0, 0, 0));
        }
        close();
    }
}
