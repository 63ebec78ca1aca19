/** Objects that refused calls are tried on: with nothing in the stores, with something, and with all that they hold. */
enum State {
    NEW(4, 4), LADEN(5, 3), FULL(8, 8);

    static final String LADEN_TAPE = "limit 9;least H 2;";
    static final int TAPE_BYTES = 200;

    final int wide;
    final int high;

    State(int itsWidth, int itsHeight) {
        wide = itsWidth;
        high = itsHeight;
    }

    BurlPipes make() {
        BurlPipes x = new BurlPipes();
        if (this == LADEN) {
            lade(x);
        }
        if (this == FULL) {
            fill(x);
        }
        return x;
    }

    int shapes() {
        return this == NEW ? 0 : this == LADEN ? 3 : 8;
    }

    int worlds() {
        return this == NEW ? 0 : this == LADEN ? 2 : 4;
    }

    int stock() {
        return this == NEW ? 0 : this == LADEN ? 4 : 12;
    }

    int orders() {
        return this == NEW ? 0 : this == LADEN ? 3 : 8;
    }

    int pipes() {
        return this == NEW ? 0 : this == LADEN ? 5 : 12;
    }

    int tape() {
        return this == NEW ? 0 : this == LADEN ? LADEN_TAPE.length() : TAPE_BYTES;
    }

    private static void lade(BurlPipes x) {
        x.burl(5, 3);
        x.crack(1, 1, true);
        x.grain(0, 0, 3);
        x.grain(4, 2, 9);
        x.shape(2, 1, 5, 0, true);
        x.shape(2, 2, 11, 3, false);
        x.shape(3, 3, 40, 0, false);
        for (int i = 0; i < 2; i++) {
            x.world();
        }
        x.doubt(0, 0, 0, true);
        x.doubt(1, 4, 2, true);
        x.store(2, 1, 5, 7);
        x.store(1, 2, 4, 98);
        x.store(2, 2, 9, 0);
        x.store(3, 3, 0, 50);
        x.order(0, 8, 10);
        x.order(1, 5, 30);
        x.order(0, 0, 5);
        Check.write(x, "stamp 1 1850 1900;stamp 2 1880 1950;bar 1 3;limit 6;least A 4;least B 3;second A B;"
                + "second B C;");
        x.laws();
        x.pipe(0, 5, 3, 4, 6, 4, 0);
        x.pipe(0, 1, 1, 2, 0, 14, 0);
        x.pipe(2, 3, 2, 5, 2, -9, 1);
        x.pipe(2, 0, 0, 0, 10, -9, 0);
        x.pipe(5, 0, 0, 0, 255, 50, 1);
        Check.write(x, LADEN_TAPE);
        x.sheet(0, 0, 15);
        x.sheet(1, 1, 20);
        x.sheet(2, 2, 0);
        for (int i = 0; i < 15; i++) {
            x.lay(0, i, i * 3 % 11);
            x.lay(1, i, i % 12);
        }
    }

    private static void fill(BurlPipes x) {
        x.burl(8, 8);
        for (int i = 0; i < 5; i++) {
            x.crack(i, 7 - i, true);
            x.grain(7 - i, i, 9 - i);
        }
        // On a burl of its size each shape is dearer than all that could be cut, so that its price can be seen.
        for (int s = 0; s < 8; s++) {
            int squares = (s + 1) * (1 + s % 2);
            x.shape(s + 1, 1 + s % 2, squares * (squares + 1), s % 4, s % 4 == 1);
        }
        for (int i = 0; i < 4; i++) {
            x.world();
            x.doubt(i, i, i, true);
            x.doubt(i, 7, 7 - i, true);
        }
        // Each order has a block that will do in some years, so that its age and its pay can be seen.
        for (int k = 0; k < 12; k++) {
            x.store(k % 8 + 1, 1 + k % 2, 9 - k % 5, k < 8 ? 80 + k : k);
        }
        for (int o = 0; o < 8; o++) {
            x.order(o, 84 + 2 * o, 1000 - 111 * o);
        }
        Check.write(x, "limit 0;stamp 0 1800 1800;stamp 7 2000 2000;bar 0 7;least A 5;least H 5;second A B;"
                + "second H A;");
        x.laws();
        for (int p = 0; p < 12; p++) {
            x.pipe(p / 2, p % 6, 5 - p % 4, 5, 1 << p % 8, 9 * p - 50, 7 - p % 8);
        }
        Check.write(x, "limit 50;" + " ".repeat(7) + "bar 0 1;".repeat(23));
        for (int k = 0; k < 4; k++) {
            x.sheet(k, k % 3, 64);
            for (int i = 0; i < 10; i++) {
                x.lay(k, i * 7, (k + i) % 11);
            }
        }
    }
}
