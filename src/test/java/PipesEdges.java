import java.util.Arrays;

/** Boundary cases of promises 24, 25 and 32 to 35: pipes, where they are sold, their years, lots. */
final class PipesEdges {
    private PipesEdges() { }

    static void run(Edges e) {
        runPipe(e);
        runTold(e);
        runYears(e);
        runLots(e);
        runWorst(e);
    }

    private static BurlPipes withLaws(String text) {
        BurlPipes x = new BurlPipes();
        Check.write(x, text);
        x.laws();
        return x;
    }

    private static int graded(BurlPipes x, int grade, int name) {
        return x.pipe(0, grade, grade, grade, 0, 0, name);
    }

    private static void drifts(BurlPipes x, int lot, int... drifts) {
        for (int drift : drifts) {
            x.pipe(lot, 0, 0, 0, 0, drift, 0);
        }
    }

    private static void runPipe(Edges e) {
        e.test(24, "PIPES (12) are numbered as they come,", PipesEdges::twelvePipes);
        e.test(24, "each with a LOT (0 to 5),", t -> {
            t.beside(0, 5, -1, (x, v) -> x.pipe(v, 0, 0, 0, 0, 0, 0));
            t.taken(State.NEW, 0, 5, 0, (x, v) -> x.pipe(v, 0, 0, 0, 0, 0, 0) + x.told(0, 0) - v);
        });
        e.test(24, "three GRADES (0 to 5 each),", t -> {
            t.beside(0, 5, -1, (x, v) -> x.pipe(0, v, 0, 0, 0, 0, 0));
            t.beside(0, 5, -1, (x, v) -> x.pipe(0, 0, v, 0, 0, 0, 0));
            t.beside(0, 5, -1, (x, v) -> x.pipe(0, 0, 0, v, 0, 0, 0));
            t.taken(State.NEW, 0, 5, 0, (x, v) -> x.pipe(0, v, 0, 0, 0, 0, 0));
            t.taken(State.NEW, 0, 5, 0, (x, v) -> x.pipe(0, 0, v, 0, 0, 0, 0));
            t.taken(State.NEW, 0, 5, 0, (x, v) -> x.pipe(0, 0, 0, v, 0, 0, 0));
        });
        e.test(24, "STAMPS (bits of 8),", t -> {
            t.beside(0, 255, -1, (x, v) -> x.pipe(0, 0, 0, 0, v, 0, 0));
            t.taken(State.NEW, 0, 255, 0, (x, v) -> x.pipe(0, 0, 0, 0, v, 0, 0) + x.told(0, 3) - v);
        });
        e.test(24, "a DRIFT (-50 to 50: how far its bore is off),", t -> {
            t.beside(-50, 50, -1, (x, v) -> x.pipe(0, 0, 0, 0, 0, v, 0));
            t.taken(State.NEW, -50, 50, 0, (x, v) -> x.pipe(0, 0, 0, 0, 0, v, 0) + x.told(0, 4) - v);
        });
        e.test(24, "a NAME (0 to 7).", t -> {
            t.beside(0, 7, -1, (x, v) -> x.pipe(0, 0, 0, 0, 0, 0, v));
            t.taken(State.NEW, 0, 7, 0, (x, v) -> x.pipe(0, 0, 0, 0, 0, 0, v) + x.told(0, 5) - v);
        });
        e.test(24, "A PIPE: its number.", t -> t.due("behind five", State.LADEN.make().pipe(0, 0, 0, 0, 0, 0, 0), 5));
        e.test(24, "BAD; FULL.", t -> {
            t.refused(State.FULL, -3, x -> x.pipe(0, 0, 0, 0, 0, 0, 0), x -> x.pipe(5, 5, 5, 5, 255, 50, 7));
            t.refused(State.LADEN, -1, x -> x.pipe(-1, -1, -1, -1, -1, -51, -1), x -> x.pipe(6, 6, 6, 6, 256, 51, 8));
        });
    }

    private static void twelvePipes(Edges e) {
        BurlPipes x = new BurlPipes();
        for (int p = 0; p < 12; p++) {
            e.due("pipe " + p, x.pipe(0, 0, 0, 0, p, 0, 0), p);
            e.due("how many", x.count(1), p + 1);
        }
        e.due("a thirteenth", x.pipe(0, 0, 0, 0, 0, 0, 0), -3);
        for (int p = 0; p < 12; p++) {
            e.due("pipe " + p + " as it came", x.told(p, 3), p);
        }
    }

    private static void runTold(Edges e) {
        e.test(25, "GRADE: the middle one of its three.", t -> allGrades(t, 1));
        e.test(25, "They AGREE, if the greatest is at most 1 above the least.", t -> allGrades(t, 2));
        e.test(25, "SOLD: under its NAME, if its GRADE is at least that one's least GRADE;",
                PipesEdges::soldUnderItsName);
        e.test(25, "else under the NAME to which that one's seconds go, if there is one, and so on; else not.",
                PipesEdges::downAllNames);
        e.test(25, "Of a PIPE: 0 LOT, 1 GRADE, 2 whether they AGREE, 3 STAMPS, 4 DRIFT, 5 NAME,",
                PipesEdges::plainTold);
        e.test(25, "6 the NAME under which it is SOLD (NONE),", t -> {
            BurlPipes x = new BurlPipes();
            t.due("without laws", x.told(graded(x, 0, 7), 6), 7);
            x = withLaws("least A 5;");
            t.due("not sold", x.told(graded(x, 4, 0), 6), -4);
            x = withLaws("least H 5;second H A;");
            t.due("sold under name 0", x.told(graded(x, 4, 7), 6), 0);
        });
        e.test(25, "7 how many NAMES it went on to (all there are, if it is not SOLD).", t -> {
            BurlPipes x = withLaws("least A 5;least B 5;second A B;second B C;least C 1;least D 5;");
            t.due("sold under its own", x.told(graded(x, 5, 0), 7), 0);
            t.due("sold under the last", x.told(graded(x, 1, 0), 7), 2);
            t.due("not sold", x.told(graded(x, 0, 0), 7), 2);
            t.due("not sold from the last", x.told(graded(x, 0, 2), 7), 0);
            t.due("not sold, no seconds", x.told(graded(x, 4, 3), 7), 0);
        });
        e.test(25, "BAD -100.", t -> {
            for (State state : State.values()) {
                t.beside(state, 0, state.pipes() - 1, -100, (x, v) -> x.told(v, 7));
            }
            t.beside(0, 7, -100, (x, v) -> x.told(0, v));
            t.beside(State.FULL, 0, 7, -100, (x, v) -> x.told(11, v));
        });
    }

    private static void soldUnderItsName(Edges e) {
        for (int least = 0; least <= 5; least++) {
            BurlPipes x = withLaws("least A " + least + ";least H " + least + ";");
            for (int grade = 0; grade <= 5; grade++) {
                int p = graded(x, grade, 0);
                e.due("grade " + grade + " for " + least, x.told(p, 6), grade >= least ? 0 : -4);
                p = graded(x, grade, 7);
                e.due("grade " + grade + " for " + least + " of H", x.told(p, 6), grade >= least ? 7 : -4);
            }
        }
    }

    private static void plainTold(Edges e) {
        BurlPipes x = new BurlPipes();
        x.pipe(0, 0, 0, 0, 0, -50, 0);
        x.pipe(5, 5, 5, 5, 255, 50, 7);
        int[][] due = {{0, 0, 1, 0, -50, 0}, {5, 5, 1, 255, 50, 7}};
        for (int i = 0; i < 12; i++) {
            e.due("pipe " + i / 6 + ", " + i % 6, x.told(i / 6, i % 6), due[i / 6][i % 6]);
        }
    }

    private static void allGrades(Edges e, int what) {
        BurlPipes x = new BurlPipes();
        for (int i = 0; i < 216; i++) {
            if (i % 12 == 0) {
                x = new BurlPipes();
            }
            int[] g = {i % 6, i / 6 % 6, i / 36};
            x.pipe(0, g[0], g[1], g[2], 0, 0, 0);
            Arrays.sort(g);
            e.due("grades " + Arrays.toString(g), x.told(i % 12, what), what == 1 ? g[1] : g[2] - g[0] <= 1 ? 1 : 0);
        }
    }

    private static void downAllNames(Edges e) {
        String chain = "second A B;second B C;second C D;second D E;second E F;second F G;second G H;";
        BurlPipes x = withLaws(chain + "least A 1;least B 1;least C 1;least D 1;least E 1;least F 1;least G 1;");
        e.due("laws", x.count(10), 14);
        for (int n = 0; n < 8; n++) {
            int p = graded(x, 0, n);
            e.due("from name " + n + " to the last", x.told(p, 6), 7);
            e.due("by so many", x.told(p, 7), 7 - n);
        }
        e.due("grade 1 stays where it is", x.told(graded(x, 1, 0), 6), 0);
        e.due("sold under another name", x.count(12), 7);
        Check.write(x, chain + "least A 5;least B 5;least C 4;least D 5;least E 5;least F 5;least G 5;least H 5;");
        e.due("laws", x.laws(), 15);
        int p = graded(x, 4, 0);
        e.due("the first name that takes it", x.told(p, 6), 2);
        e.due("by two", x.told(p, 7), 2);
        p = graded(x, 4, 3);
        e.due("none behind takes it", x.told(p, 6), -4);
        e.due("by all there are", x.told(p, 7), 4);
        e.due("at the first name", x.told(0, 6), -4);
        e.due("by all seven", x.told(0, 7), 7);
    }

    private static void runYears(Edges e) {
        e.test(32, "YEARS of a PIPE: those in which all its STAMPS were USED (without STAMPS: 1800 to 2000);",
                PipesEdges::yearsOfStamps);
        e.test(32, "YEARS of a PIPE: those in which all its STAMPS were USED", PipesEdges::gapsOfYears);
        e.test(32, "none, if two of its STAMPS EXCLUDE one another.", PipesEdges::excluded);
        e.test(32, "YEARS of a PIPE: how many (what 0), the first (1), the last (2).", PipesEdges::firstAndLastYear);
        e.test(32, "BAD; NONE (1, 2): there are none.", t -> {
            for (State state : State.values()) {
                t.beside(state, 0, state.pipes() - 1, -1, (x, v) -> x.years(v, 1));
            }
            t.beside(0, 2, -1, (x, v) -> x.years(0, v));
            t.refused(State.LADEN, -4, x -> x.years(3, 1), x -> x.years(3, 2));
            t.due("what 0", State.LADEN.make().years(3, 0), 0);
        });
        e.test(33, "How many PIPES have a year (1800 to 2000) in their YEARS.", PipesEdges::datedPipes);
        e.test(33, "BAD.", t -> {
            t.beside(1800, 2000, -1, (x, v) -> x.dated(v));
            t.taken(State.NEW, 1800, 2000, 0, (x, v) -> x.dated(v));
        });
    }

    private static void gapsOfYears(Edges e) {
        int[] second = {1899, 1900, 1901, 1902, 1903, 2000};
        int[] due = {2, 1, 0, 0, 0, 0};
        for (int i = 0; i < second.length; i++) {
            BurlPipes x = withLaws("stamp 0 1800 1900;stamp 7 " + second[i] + " 2000;");
            x.pipe(0, 0, 0, 0, 129, 0, 0);
            e.due("used until 1900 and from " + second[i] + " on", x.years(0, 0), due[i]);
            e.due("the first", x.years(0, 1), due[i] == 0 ? -4 : second[i]);
            e.due("the last", x.years(0, 2), due[i] == 0 ? -4 : 1900);
            e.due("in 1900", x.dated(1900), due[i] == 0 ? 0 : 1);
            e.due("in 1901", x.dated(1901), 0);
        }
    }

    private static void excluded(Edges e) {
        BurlPipes x = withLaws("bar 0 7;");
        int[] stamps = {129, 255, 1, 128, 127, 254};
        int[] due = {0, 0, 201, 201, 201, 201};
        for (int p = 0; p < stamps.length; p++) {
            x.pipe(0, 0, 0, 0, stamps[p], 0, 0);
            e.due("stamps " + stamps[p], x.years(p, 0), due[p]);
        }
        e.due("of all years", x.dated(1800), 4);
    }

    private static void firstAndLastYear(Edges e) {
        BurlPipes x = withLaws("stamp 0 1800 1800;stamp 1 2000 2000;stamp 2 1801 1999;");
        int[][] due = {{1, 1800, 1800}, {1, 2000, 2000}, {199, 1801, 1999}, {201, 1800, 2000}};
        for (int i = 0; i < 4; i++) {
            x.pipe(0, 0, 0, 0, 1 << i, 0, 0);
            for (int what = 0; what < 3; what++) {
                e.due("years(" + what + ") of stamp " + i, x.years(i, what), due[i][what]);
            }
        }
    }

    private static void yearsOfStamps(Edges e) {
        BurlPipes x = withLaws("stamp 0 1800 1900;stamp 1 1900 2000;stamp 2 1901 2000;stamp 7 1899 1901;");
        int[] stamps = {0, 1, 2, 3, 5, 129, 130, 132, 131, 255, 8, 9};
        int[] due = {201, 101, 101, 1, 0, 2, 2, 1, 1, 0, 201, 101};
        int[] first = {1800, 1800, 1900, 1900, -4, 1899, 1900, 1901, 1900, -4, 1800, 1800};
        int[] last = {2000, 1900, 2000, 1900, -4, 1900, 1901, 1901, 1900, -4, 2000, 1900};
        for (int p = 0; p < stamps.length; p++) {
            x.pipe(0, 0, 0, 0, stamps[p], 0, 0);
            e.due("how many of stamps " + stamps[p], x.years(p, 0), due[p]);
            e.due("the first of stamps " + stamps[p], x.years(p, 1), first[p]);
            e.due("the last of stamps " + stamps[p], x.years(p, 2), last[p]);
        }
    }

    private static void datedPipes(Edges e) {
        BurlPipes x = withLaws("stamp 0 1850 1900;stamp 1 1900 1950;bar 0 2;");
        e.due("no pipes", x.dated(1900), 0);
        int[] stamps = {0, 1, 2, 3, 5, 4};
        for (int s : stamps) {
            x.pipe(0, 0, 0, 0, s, 0, 0);
        }
        int[] year = {1800, 1849, 1850, 1899, 1900, 1901, 1950, 1951, 2000};
        int[] due = {2, 2, 3, 3, 5, 3, 3, 2, 2};
        for (int i = 0; i < year.length; i++) {
            e.due("year " + year[i], x.dated(year[i]), due[i]);
        }
        BurlPipes y = new BurlPipes();
        for (int p = 0; p < 12; p++) {
            y.pipe(0, 0, 0, 0, 255, 0, 0);
        }
        e.due("all twelve, the first year", y.dated(1800), 12);
        e.due("all twelve, the last year", y.dated(2000), 12);
    }

    private static void runLots(Edges e) {
        e.test(34, "OFF is a LOT whose PIPES, two at least,", t -> {
            BurlPipes x = withLaws("limit 0;");
            t.due("no pipes", x.lot(3, 4), 0);
            drifts(x, 3, 50);
            t.due("one pipe", x.lot(3, 4), 0);
            drifts(x, 3, -49);
            t.due("two pipes", x.lot(3, 4), 1);
        });
        e.test(34, "have a sum of DRIFTS, without its sign, above LIMIT times how many they are.",
                PipesEdges::aboveLimit);
        e.test(34, "RUN of a LOT: the most of its PIPES one behind the other (of that LOT, by numbers) with DRIFTS"
                + " above 0, or with DRIFTS below 0.", PipesEdges::runs);
        e.test(34, "Of a LOT: 0 PIPES, 1 the sum of DRIFTS, 2 of GRADES, 3 how many AGREE, 4 whether it is OFF, 5 RUN.",
                PipesEdges::wholeLot);
        e.test(34, "BAD -10000.", t -> {
            t.beside(0, 5, -10000, (x, v) -> x.lot(v, 0));
            t.beside(0, 5, -10000, (x, v) -> x.lot(0, v));
            t.beside(0, 5, -10000, (x, v) -> x.lot(5, v));
        });
    }

    private static void wholeLot(Edges e) {
        for (int l = 0; l < 6; l++) {
            BurlPipes x = new BurlPipes();
            int[] empty = new int[6];
            int[] full = {12, -600, 60, 12, 1, 12};
            for (int what = 0; what < 6; what++) {
                e.due("empty lot " + l + ", " + what, x.lot(l, what), empty[what]);
            }
            for (int p = 0; p < 12; p++) {
                x.pipe(l, 5, 5, 5, 0, -50, 0);
            }
            for (int what = 0; what < 6; what++) {
                e.due("full lot " + l + ", " + what, x.lot(l, what), full[what]);
                e.due("the next lot, " + what, x.lot((l + 1) % 6, what), 0);
            }
        }
        BurlPipes y = new BurlPipes();
        drifts(y, 0, 50, 50, 50, 50, 50, 50, 50, 50, 50, 50, 50, 50);
        e.due("the greatest sum", y.lot(0, 1), 600);
    }

    private static void aboveLimit(Edges e) {
        int[] limits = {0, 1, 49, 50};
        for (int limit : limits) {
            for (int sign = -1; sign <= 1; sign += 2) {
                BurlPipes x = withLaws("limit " + limit + ";");
                drifts(x, 0, sign * limit, sign * limit);
                e.due("just the limit " + limit * sign, x.lot(0, 4), 0);
                drifts(x, 1, sign * limit, sign * Math.min(50, limit + 1));
                e.due("one above " + limit * sign, x.lot(1, 4), limit == 50 ? 0 : 1);
                drifts(x, 2, sign * limit, sign * limit, sign * limit);
                e.due("three at it", x.lot(2, 4), 0);
                drifts(x, 3, sign * 50, sign * -50, sign);
                e.due("signs are taken from the sum alone", x.lot(3, 4), limit == 0 ? 1 : 0);
            }
        }
        BurlPipes y = new BurlPipes();
        drifts(y, 0, 5, 5);
        e.due("limit 5 is not told", y.lot(0, 4), 0);
        drifts(y, 1, 5, 6);
        e.due("11 of two", y.lot(1, 4), 1);
        drifts(y, 1, 4);
        e.due("15 of three", y.lot(1, 4), 0);
    }

    private static void runs(Edges e) {
        int[][] rows = {{0}, {1}, {-1}, {0, 0}, {1, 0, 1}, {-1, 0, -1}, {1, -1}, {-1, 1}, {1, 1, -1, -1, -1},
            {-1, -1, 1, 1, 1}, {50, 50, 0, 50}, {-50, 0, -50, -50}, {0, 1, 1, 0}, {1, 1, 1, 1, 1, 1, 1, 1, 1, 1, 1, 1}};
        int[] due = {0, 1, 1, 0, 1, 1, 1, 1, 3, 3, 2, 2, 2, 12};
        for (int i = 0; i < rows.length; i++) {
            BurlPipes x = new BurlPipes();
            drifts(x, 5, rows[i]);
            e.due("row " + i, x.lot(5, 5), due[i]);
        }
        BurlPipes y = new BurlPipes();
        for (int i = 0; i < 6; i++) {
            drifts(y, 0, 1);
            drifts(y, 1, -1);
        }
        e.due("pipes of another lot between", y.lot(0, 5), 6);
        e.due("and of the other", y.lot(1, 5), 6);
    }

    private static void runWorst(Edges e) {
        e.test(35, "The LOT that is OFF with the greatest sum of DRIFTS (without sign) by how many PIPES,",
                PipesEdges::greatestByPipes);
        e.test(35, "the least number of several.", PipesEdges::leastNumber);
        e.test(35, "NONE: none is OFF.", PipesEdges::noneIsOff);
    }

    private static void greatestByPipes(Edges e) {
        BurlPipes x = new BurlPipes();
        drifts(x, 0, 50);
        drifts(x, 1, 11, 0);
        e.due("one pipe is not off", x.worst(), 1);
        drifts(x, 2, -6, -6);
        e.due("12 by two, without sign", x.worst(), 2);
        drifts(x, 3, 18, 0, 0);
        e.due("18 by three is no more", x.worst(), 2);
        drifts(x, 5, 19, 0, 0);
        e.due("19 by three", x.worst(), 5);
    }

    private static void leastNumber(Edges e) {
        for (int first = 0; first < 6; first++) {
            BurlPipes x = new BurlPipes();
            for (int l = 5; l >= first; l--) {
                drifts(x, l, l % 2 == 0 ? 6 : -6, l % 2 == 0 ? 6 : -6);
                e.due("from lot " + l + " on", x.worst(), l);
            }
        }
        BurlPipes y = new BurlPipes();
        drifts(y, 4, 12, 12);
        drifts(y, 2, 12, 12, 12);
        e.due("24 by two and 36 by three", y.worst(), 2);
    }

    private static void noneIsOff(Edges e) {
        e.refused(State.NEW, -4, BurlPipes::worst);
        BurlPipes x = new BurlPipes();
        drifts(x, 0, 50);
        drifts(x, 1, 5, 5);
        drifts(x, 2, 50, -50);
        e.due("just not", x.worst(), -4);
        drifts(x, 1, 6);
        e.due("just so", x.worst(), 1);
    }
}
