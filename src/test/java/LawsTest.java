/** Promises 26 to 31: the tape and its laws. */
public final class LawsTest {
    private static final Check C = new Check("LawsTest");

    public static void main(String[] args) {
        feed();
        end();
        lawsThatHold();
        tokens();
        faults();
        whatWasToldStays();
        stamp();
        name();
        C.end();
    }

    private static void feed() {
        BurlPipes x = new BurlPipes();
        for (int n = 8; n <= 200; n += 8) {
            C.due("26: how many", x.feed(0x2020202020202020L), n);
        }
        C.due("26: full", x.feed(0x2020202020202020L), -3);
        C.due("27: still 200", x.end(193), 200);
        C.due("26: one too many", x.feed(0x2020202020202020L), -3);
        C.due("27: still 193", x.end(192), 193);
        C.due("26: just enough", x.feed(0x6c696d69742038bbL), 200);
        C.due("28: highest byte first; byte 187 is no token", x.laws(), -10 - 199);
        C.due("29: it is fault 1", x.fault(), 1);
        C.due("26: empty after it", x.feed(-1L), 8);
        C.due("28: byte 255", x.laws(), -10);
        C.due("29: byte 255", x.fault(), 1);
    }

    private static void end() {
        BurlPipes x = new BurlPipes();
        C.due("27: of an empty one", x.end(0), 0);
        C.due("27: it has none", x.end(1), -1);
        x.feed(0x6c696d697420393bL);
        C.due("27: below 0", x.end(-1), -1);
        C.due("27: more than it has", x.end(9), -1);
        C.due("27: as many as it has", x.end(8), 8);
        C.due("27: fewer", x.end(3), 8);
        C.due("27: had three", x.end(0), 3);
        C.due("28: an empty tape", x.laws(), 0);
    }

    private static void laws(String text, int due, int fault) {
        BurlPipes x = new BurlPipes();
        Check.write(x, text);
        C.due("28: laws() of '" + text + "'", x.laws(), due);
        C.due("29: fault() of '" + text + "'", x.fault(), fault);
        C.due("28: the tape is empty after '" + text + "'", x.end(0), 0);
        C.due("39: laws after '" + text + "'", x.count(10), Math.max(0, due));
    }

    private static void lawsThatHold() {
        laws("", 0, 0);
        laws("   ", 0, 0);
        laws("limit 0;", 1, 0);
        laws("limit 50 ; ", 1, 0);
        laws("stamp 0 1800 2000;stamp 7 1900 1900;", 2, 0);
        laws("bar 0 7;bar 7 0;bar 0 7;", 3, 0);
        laws("least A 0;least H 5;", 2, 0);
        laws("second A B;second B C;second C D;second D E;second E F;second F G;second G H;", 7, 0);
        laws("second G H;second F G;second E F;second D E;second C D;second B C;second A B;", 7, 0);
        laws("second A H;second B H;", 2, 0);
    }

    private static void tokens() {
        laws("limit5;", 1, 0);
        laws("leastA0005;secondAB;", 2, 0);
        laws("stamp1 1800 1900;bar1 2;", 2, 0);
        laws("limit00005;", -15, 1);
        laws("limit 12345678901234567890;", -16, 1);
        laws("limits 5;", -10, 1);
        laws("limi 5;", -10, 1);
        laws("Limit 5;", -10, 1);
        laws("stampstamp", -10, 1);
        laws("least I 5;", -16, 1);
        laws("limit\t5;", -15, 1);
        laws("limit -5;", -16, 1);
        laws("limit 5 \u00a0;", -18, 1);
        laws("x", -10, 1);
        laws("xtamp 1 1800 1900;", -10, 1);
        laws(";".repeat(200), -10, 2);
        laws(" ".repeat(199) + ";", -209, 2);
        laws(" ".repeat(200), 0, 0);
        laws("limit 5;" + "A".repeat(192), -18, 2);
        laws("limit 5;" + " ".repeat(191) + "0", -209, 2);
        laws("limit 5;" + " ".repeat(187) + "limit", -205, 4);
        laws("bar 0 1;".repeat(25), 25, 0);
        laws("bar01;bar 0 1;".repeat(14), -15, 2);
        laws("limit 5;  y", -20, 1);
    }

    private static void faults() {
        laws(";", -10, 2);
        laws("7", -10, 2);
        laws("A", -10, 2);
        laws("limit", -15, 2);
        laws("limit  ", -17, 2);
        laws("limit ;", -16, 2);
        laws("limit A;", -16, 2);
        laws("limit 5 limit", -18, 2);
        laws("limit 5;;", -18, 2);
        laws("least 5 5;", -16, 2);
        laws("least A A;", -18, 2);
        laws("least A 5", -19, 2);
        laws("stamp 1 1800 1900 ", -28, 2);
        laws("stamp 1 1800;", -22, 2);
        laws("stamp bar", -16, 2);
        laws("stamp bars", -16, 1);
        laws("second A 1;", -19, 2);
        laws("second A B C;", -21, 2);
        laws("limit 51;", -16, 3);
        laws("limit 51 ?", -16, 3);
        laws("limit 9999", -16, 3);
        laws("stamp 8 1800 1900;", -16, 3);
        laws("stamp 1 1799 1900;", -18, 3);
        laws("stamp 1 2001 2000;", -18, 3);
        laws("stamp 1 1900 2001;", -23, 3);
        laws("stamp 1 1900 1899;", -23, 3);
        laws("bar 8 1;", -14, 3);
        laws("bar 1 8;", -16, 3);
        laws("bar 3 3;", -16, 3);
        laws("least A 6;", -18, 3);
        laws("stamp 1 1800 1900; stamp 1 x", -35, 4);
        laws("stamp 1 1800 1900; stamp 2 1800 1900; stamp 1 x", -54, 4);
        laws("least A 1;least B 1;least A", -36, 4);
        laws("limit 5; limit", -19, 4);
        laws("limit 5; limit ?", -19, 4);
        laws("least B 0;least B", -26, 4);
        laws("second B C;second B B;", -28, 4);
        laws("second C C;", -19, 5);
        laws("second A B;second B C;second C A;", -41, 5);
        laws("second A B;second C A;second B C", -41, 5);
        laws("second A B;second B A", -30, 5);
    }

    private static void whatWasToldStays() {
        BurlPipes x = new BurlPipes();
        Check.write(x, "limit 7;least A 3;second A B;stamp 2 1810 1820;bar 2 3;");
        C.due("28: five laws", x.laws(), 5);
        Check.write(x, "limit 8;least A 1;second B A;stamp 2 1830 1840;stamp 2");
        C.due("28: a fault", x.laws(), -10 - 53);
        C.due("29: it is told already", x.fault(), 4);
        C.due("28: laws stay", x.count(10), 5);
        C.due("28: limit stays", x.count(11), 7);
        C.due("28: least stays", x.name(0, 0), 3);
        C.due("28: second stays", x.name(0, 1), 1);
        C.due("28: no other second", x.name(1, 1), -4);
        C.due("28: stamp stays", x.stamp(2, 0), 1810);
        C.due("28: bar stays", x.stamp(2, 2), 8);
        Check.write(x, "limit 9;");
        C.due("28: all laws are told anew", x.laws(), 1);
        C.due("29: no fault", x.fault(), 0);
        C.due("28: limit", x.count(11), 9);
        C.due("28: least not told", x.name(0, 0), 0);
        C.due("28: second not told", x.name(0, 1), -4);
        C.due("28: stamp not told", x.stamp(2, 0), 1800);
        C.due("28: stamp not told", x.stamp(2, 1), 2000);
        C.due("28: bar not told", x.stamp(2, 2), 0);
        C.due("28: an empty tape tells none", x.laws(), 0);
        C.due("28: limit not told", x.count(11), 5);
        C.due("39: no laws", x.count(10), 0);
    }

    private static void stamp() {
        BurlPipes x = new BurlPipes();
        for (int s = 0; s < 8; s++) {
            C.due("30: from", x.stamp(s, 0), 1800);
            C.due("30: to", x.stamp(s, 1), 2000);
            C.due("30: excludes", x.stamp(s, 2), 0);
        }
        Check.write(x, "stamp 7 1801 1999;bar 7 0;bar 5 7;bar 0 7;");
        C.due("30: laws", x.laws(), 4);
        C.due("30: from", x.stamp(7, 0), 1801);
        C.due("30: to", x.stamp(7, 1), 1999);
        C.due("30: excludes", x.stamp(7, 2), 33);
        C.due("30: the other way round", x.stamp(0, 2), 128);
        C.due("30: the other way round", x.stamp(5, 2), 128);
        Check.write(x, "bar 1 0;bar 1 2;bar 3 1;bar 1 4;");
        x.laws();
        C.due("30: all of several bars", x.stamp(1, 2), 29);
        C.due("30: bad", x.stamp(8, 0), -1);
        C.due("30: bad", x.stamp(-1, 0), -1);
        C.due("30: bad", x.stamp(0, 3), -1);
        C.due("30: bad", x.stamp(0, -1), -1);
    }

    private static void name() {
        BurlPipes x = new BurlPipes();
        for (int n = 0; n < 8; n++) {
            C.due("31: least", x.name(n, 0), 0);
            C.due("31: second", x.name(n, 1), -4);
            C.due("31: goes on to", x.name(n, 2), 0);
        }
        Check.write(x, "second A B;second B C;second C D;second D E;second E F;second F G;second G H;least D 5;");
        C.due("31: laws", x.laws(), 8);
        for (int n = 0; n < 8; n++) {
            C.due("31: least", x.name(n, 0), n == 3 ? 5 : 0);
            C.due("31: second", x.name(n, 1), n == 7 ? -4 : n + 1);
            C.due("31: goes on to", x.name(n, 2), 7 - n);
        }
        C.due("31: bad", x.name(8, 0), -1);
        C.due("31: bad", x.name(-1, 0), -1);
        C.due("31: bad", x.name(0, 3), -1);
        C.due("31: bad", x.name(0, -1), -1);
    }
}
