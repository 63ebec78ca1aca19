/** Promises 24, 25 and 32 to 35: pipes, their years, lots. */
public final class PipesTest {
    private static final Check C = new Check("PipesTest");

    public static void main(String[] args) {
        pipe();
        told();
        sold();
        years();
        dated();
        lot();
        runs();
        worst();
        C.end();
    }

    private static void pipe() {
        BurlPipes x = new BurlPipes();
        int[][] bad = {{-1, 0, 0, 0, 0, 0, 0}, {6, 0, 0, 0, 0, 0, 0}, {0, -1, 0, 0, 0, 0, 0}, {0, 0, 6, 0, 0, 0, 0},
            {0, 0, 0, 6, 0, 0, 0}, {0, 0, -1, 0, 0, 0, 0}, {0, 0, 0, -1, 0, 0, 0}, {0, 0, 0, 0, -1, 0, 0},
            {0, 0, 0, 0, 256, 0, 0}, {0, 0, 0, 0, 0, -51, 0}, {0, 0, 0, 0, 0, 51, 0}, {0, 0, 0, 0, 0, 0, -1},
            {0, 0, 0, 0, 0, 0, 8}, {0, 6, 0, 0, 0, 0, 0}};
        for (int[] b : bad) {
            C.due("24: bad", x.pipe(b[0], b[1], b[2], b[3], b[4], b[5], b[6]), -1);
        }
        C.due("24: none came", x.count(1), 0);
        C.due("24: the least", x.pipe(0, 0, 0, 0, 0, -50, 0), 0);
        C.due("24: the greatest", x.pipe(5, 5, 5, 5, 255, 50, 7), 1);
        for (int p = 2; p < 12; p++) {
            C.due("24: number", x.pipe(0, 1, 2, 3, 4, 5, 6), p);
        }
        C.due("24: full", x.pipe(0, 0, 0, 0, 0, 0, 0), -3);
        C.due("24: bad before full", x.pipe(6, 0, 0, 0, 0, 0, 0), -1);
        C.due("24: twelve", x.count(1), 12);
    }

    private static void told() {
        BurlPipes x = new BurlPipes();
        C.due("25: no pipe", x.told(0, 0), -100);
        x.pipe(3, 5, 1, 4, 129, -4, 6);
        int[] due = {3, 4, 0, 129, -4, 6, 6, 0};
        for (int what = 0; what < 8; what++) {
            C.due("25: what " + what, x.told(0, what), due[what]);
        }
        C.due("25: what 8", x.told(0, 8), -100);
        C.due("25: what -1", x.told(0, -1), -100);
        C.due("25: no pipe 1", x.told(1, 0), -100);
        C.due("25: no pipe -1", x.told(-1, 0), -100);
        int[][] grades = {{2, 2, 2, 2, 1}, {2, 3, 2, 2, 1}, {3, 2, 3, 3, 1}, {1, 2, 3, 2, 0}, {3, 1, 2, 2, 0},
            {2, 3, 1, 2, 0}, {5, 0, 0, 0, 0}, {0, 5, 5, 5, 0}};
        for (int i = 0; i < grades.length; i++) {
            int[] g = grades[i];
            x.pipe(0, g[0], g[1], g[2], 0, 0, 0);
            C.due("25: the middle grade", x.told(i + 1, 1), g[3]);
            C.due("25: whether they agree", x.told(i + 1, 2), g[4]);
        }
    }

    private static void sold() {
        BurlPipes x = new BurlPipes();
        Check.write(x, "least A 4; least B 2; least C 5; second A B; second B C; least H 1; least D 3; second D A;");
        C.due("25: laws", x.laws(), 8);
        int[][] due = {{4, 0, 0, 0}, {3, 0, 1, 1}, {2, 0, 1, 1}, {1, 0, -4, 2}, {5, 2, 2, 0}, {4, 2, -4, 0},
            {0, 7, -4, 0}, {1, 7, 7, 0}, {2, 3, 1, 2}, {0, 3, -4, 3}, {0, 4, 4, 0}, {3, 3, 3, 0}};
        for (int p = 0; p < due.length; p++) {
            int g = due[p][0];
            x.pipe(0, g, g, g, 0, 0, due[p][1]);
            C.due("25: grade " + g + " of name " + due[p][1] + " is sold under", x.told(p, 6), due[p][2]);
            C.due("25: grade " + g + " of name " + due[p][1] + " goes on to", x.told(p, 7), due[p][3]);
        }
        C.due("39: sold under another name", x.count(12), 3);
        x.laws();
        C.due("39: without laws", x.count(12), 0);
    }

    private static void years() {
        BurlPipes x = new BurlPipes();
        C.due("32: no pipe", x.years(0, 0), -1);
        Check.write(x, "stamp 0 1850 1900; stamp 1 1900 1950; stamp 2 1901 1902; bar 3 4; bar 0 7;");
        C.due("32: laws", x.laws(), 5);
        int[] stamps = {0, 1, 3, 5, 8, 24, 129, 255, 1 << 2, 2 + 4};
        int[] howMany = {201, 51, 1, 0, 201, 0, 0, 0, 2, 2};
        int[] first = {1800, 1850, 1900, -4, 1800, -4, -4, -4, 1901, 1901};
        int[] last = {2000, 1900, 1900, -4, 2000, -4, -4, -4, 1902, 1902};
        for (int p = 0; p < stamps.length; p++) {
            x.pipe(0, 0, 0, 0, stamps[p], 0, 0);
            C.due("32: years of stamps " + stamps[p], x.years(p, 0), howMany[p]);
            C.due("32: first of stamps " + stamps[p], x.years(p, 1), first[p]);
            C.due("32: last of stamps " + stamps[p], x.years(p, 2), last[p]);
        }
        C.due("32: what 3", x.years(0, 3), -1);
        C.due("32: what -1", x.years(0, -1), -1);
        C.due("32: what 3, without years", x.years(3, 3), -1);
        C.due("32: no such pipe", x.years(10, 0), -1);
        C.due("32: no such pipe", x.years(-1, 1), -1);
    }

    private static void dated() {
        BurlPipes x = new BurlPipes();
        C.due("33: no pipes", x.dated(1800), 0);
        C.due("33: too early", x.dated(1799), -1);
        C.due("33: too late", x.dated(2001), -1);
        Check.write(x, "stamp 0 1850 1900; stamp 1 1900 1950; bar 0 2;");
        x.laws();
        x.pipe(0, 0, 0, 0, 0, 0, 0);
        x.pipe(0, 0, 0, 0, 1, 0, 0);
        x.pipe(0, 0, 0, 0, 2, 0, 0);
        x.pipe(0, 0, 0, 0, 3, 0, 0);
        x.pipe(0, 0, 0, 0, 5, 0, 0);
        int[] year = {1800, 1849, 1850, 1899, 1900, 1901, 1950, 1951, 2000};
        int[] due = {1, 1, 2, 2, 4, 2, 2, 1, 1};
        for (int i = 0; i < year.length; i++) {
            C.due("33: year " + year[i], x.dated(year[i]), due[i]);
        }
    }

    private static void lot() {
        BurlPipes x = new BurlPipes();
        for (int what = 0; what < 6; what++) {
            C.due("34: an empty lot", x.lot(5, what), 0);
        }
        C.due("34: lot 6", x.lot(6, 0), -10000);
        C.due("34: lot -1", x.lot(-1, 0), -10000);
        C.due("34: what 6", x.lot(0, 6), -10000);
        C.due("34: what -1", x.lot(0, -1), -10000);
        int[] drifts = {4, 1, 0, 3, 7, -1, -2, -3, -4};
        for (int i = 0; i < drifts.length; i++) {
            x.pipe(2, 1, 2, i % 3, 0, drifts[i], 0);
            if (i == 5) {
                x.pipe(1, 5, 5, 5, 0, 50, 0);
            }
        }
        C.due("34: pipes", x.lot(2, 0), 9);
        C.due("34: drifts", x.lot(2, 1), 5);
        C.due("34: grades", x.lot(2, 2), 3 * (1 + 1 + 2));
        C.due("34: agree", x.lot(2, 3), 6);
        C.due("34: not off", x.lot(2, 4), 0);
        C.due("34: run goes past another lot's pipe", x.lot(2, 5), 4);
        C.due("34: one pipe is never off", x.lot(1, 4), 0);
        C.due("34: its run", x.lot(1, 5), 1);
        C.due("39: no lot is off", x.count(4), 0);
        x.pipe(1, 0, 0, 0, 0, -40, 0);
        C.due("34: 10 is not above 5 times 2", x.lot(1, 4), 0);
        Check.write(x, "limit 4;");
        x.laws();
        C.due("34: but above 4 times 2", x.lot(1, 4), 1);
        C.due("39: one lot is off", x.count(4), 1);
        x.pipe(1, 0, 0, 0, 0, -50, 0);
        C.due("34: a sum below 0", x.lot(1, 1), -40);
        C.due("34: without its sign", x.lot(1, 4), 1);
    }

    private static void runs() {
        int[][] drifts = {{0, 0, 0}, {1, 0, 1, 1}, {-1, -1, 0, -1}, {1, -1, 1, -1}, {-1, 1, 1, 1, -1}, {-2, -2, 0, -2, -2, -2}};
        int[] due = {0, 2, 2, 1, 3, 3};
        for (int i = 0; i < due.length; i++) {
            BurlPipes x = new BurlPipes();
            for (int drift : drifts[i]) {
                x.pipe(0, 0, 0, 0, 0, drift, 0);
            }
            C.due("34: run of row " + i, x.lot(0, 5), due[i]);
            C.due("34: no run elsewhere", x.lot(1, 5), 0);
        }
    }

    private static void worst() {
        BurlPipes x = new BurlPipes();
        C.due("35: none", x.worst(), -4);
        x.pipe(0, 0, 0, 0, 0, 50, 0);
        C.due("35: one pipe is not off", x.worst(), -4);
        x.pipe(1, 0, 0, 0, 0, 6, 0);
        x.pipe(1, 0, 0, 0, 0, 7, 0);
        C.due("35: the only one", x.worst(), 1);
        x.pipe(3, 0, 0, 0, 0, -7, 0);
        x.pipe(3, 0, 0, 0, 0, -7, 0);
        C.due("35: more by pipes, without sign", x.worst(), 3);
        x.pipe(2, 0, 0, 0, 0, 7, 0);
        x.pipe(2, 0, 0, 0, 0, 7, 0);
        x.pipe(2, 0, 0, 0, 0, 7, 0);
        C.due("35: as much by pipes: the least number", x.worst(), 2);
        x.pipe(1, 0, 0, 0, 0, 8, 0);
        C.due("35: again as much", x.worst(), 1);
        x.pipe(3, 0, 0, 0, 0, -8, 0);
        C.due("35: 22 by 3 against 21 by 3", x.worst(), 3);
        C.due("39: three are off", x.count(4), 3);
        Check.write(x, "limit 50;");
        x.laws();
        C.due("35: none is off", x.worst(), -4);
        BurlPipes y = new BurlPipes();
        for (int lot = 5; lot >= 0; lot -= 5) {
            y.pipe(lot, 0, 0, 0, 0, 10, 0);
            y.pipe(lot, 0, 0, 0, 0, 10, 0);
            C.due("35: the first and the last lot", y.worst(), lot);
        }
    }
}
