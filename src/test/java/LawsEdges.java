/** Boundary cases of promises 26 to 31: the tape, its tokens, the laws that it tells, their faults, what holds. */
final class LawsEdges {
    private static final int MIN = Integer.MIN_VALUE, MAX = Integer.MAX_VALUE;
    private static final long BLANKS = 0x2020202020202020L;

    private LawsEdges() { }

    static void run(Edges e) {
        runTape(e);
        runTokens(e);
        runGrammar(e);
        runFaults(e);
        runLaws(e);
        runStamp(e);
        runName(e);
    }

    /** A text on a new object's tape: what laws() answers, and its fault (0: none, then due is how many laws). */
    private static void text(Edges e, String text, int due, int fault) {
        BurlPipes x = new BurlPipes();
        Check.write(x, text);
        e.due("laws() of '" + text + "'", x.laws(), due);
        e.due("fault() of '" + text + "'", x.fault(), fault);
        e.due("the tape's length after '" + text + "'", x.end(0), 0);
    }

    private static void good(Edges e, String text, int laws) {
        text(e, text, laws, 0);
    }

    private static void bad(Edges e, int fault, int place, String text) {
        text(e, text, -10 - place, fault);
    }

    private static BurlPipes told(String text) {
        BurlPipes x = new BurlPipes();
        Check.write(x, text);
        x.laws();
        return x;
    }

    private static void runTape(Edges e) {
        e.test(26, "THE TAPE has 200 bytes, places from 0.", LawsEdges::tapeOf200);
        e.test(26, "Eight bytes come behind THE TAPE, the highest first: how many it has.", LawsEdges::eightBytes);
        e.test(26, "FULL: more than 200.", LawsEdges::feedFull);
        e.test(27, "THE TAPE keeps its first n bytes: how many it had.", LawsEdges::keepsFirst);
        e.test(27, "BAD.", t -> {
            for (State state : State.values()) {
                t.beside(state, 0, state.tape(), -1, (x, v) -> x.end(v));
                t.taken(state, 0, state.tape(), state.tape(), (x, v) -> x.end(v));
            }
            t.refused(State.NEW, -1, x -> x.end(1), x -> x.end(8), x -> x.end(200));
        });
    }

    private static void tapeOf200(Edges e) {
        BurlPipes x = new BurlPipes();
        for (int n = 8; n <= 200; n += 8) {
            e.due("how many", x.feed(BLANKS), n);
        }
        e.due("no more", x.feed(BLANKS), -3);
        e.due("200", x.end(200), 200);
        bad(e, 2, 0, ";");
        bad(e, 2, 199, " ".repeat(199) + ";");
        bad(e, 2, 200, " ".repeat(195) + "limit");
        bad(e, 2, 0, ";".repeat(200));
        bad(e, 2, 8, "limit 5;" + "A".repeat(192));
        bad(e, 2, 200, "bar 0 1;".repeat(24) + "limit 50");
        good(e, "bar 0 1;".repeat(24) + "limit 5;", 25);
    }

    private static void feedFull(Edges e) {
        e.refused(State.FULL, -3, x -> x.feed(0), x -> x.feed(BLANKS), x -> x.feed(-1L));
        for (int n = 190; n <= 200; n++) {
            BurlPipes x = State.FULL.make();
            x.end(n);
            e.due("feed() behind " + n, x.feed(BLANKS), n <= 192 ? n + 8 : -3);
            e.due("it has then", x.end(0), n <= 192 ? n + 8 : n);
        }
    }

    private static void keepsFirst(Edges e) {
        BurlPipes x = State.FULL.make();
        e.due("all of them", x.end(200), 200);
        e.due("all but one", x.end(199), 200);
        e.due("had 199", x.end(9), 199);
        e.due("its first nine tell a law", x.laws(), 1);
        e.due("the limit", x.count(11), 50);
        e.due("an empty one", x.end(0), 0);
        x.feed(0x626172203020313bL);
        e.due("none of eight", x.end(0), 8);
        e.due("none are kept", x.laws(), 0);
    }

    private static void eightBytes(Edges e) {
        BurlPipes x = new BurlPipes();
        e.due("eight", x.feed(0x6c696d6974203131L), 8);
        e.due("sixteen", x.feed(0x3b62617220302031L), 16);
        e.due("24", x.feed(0x3b20202020202020L), 24);
        e.due("laws", x.laws(), 2);
        e.due("the limit", x.count(11), 11);
        e.due("behind a tape that was read", x.feed(0x3b20202020202020L), 8);
        e.due("its first byte", x.laws(), -10);
        for (int place = 0; place < 8; place++) {
            BurlPipes y = new BurlPipes();
            long spoilt = BLANKS & ~(255L << 56 - 8 * place);
            y.feed(spoilt | 0x80L << 56 - 8 * place);
            e.due("byte 128 at " + place, y.laws(), -10 - place);
            y.feed(BLANKS);
            y.end(5);
            y.feed(spoilt | 0xffL << 56 - 8 * place);
            e.due("byte 255 behind five, at " + place, y.laws(), -15 - place);
        }
    }

    private static void runTokens(Edges e) {
        e.test(28, "TOKENS, each as long as may be,", LawsEdges::asLongAsMayBe);
        e.test(28, "blanks (32) between:", LawsEdges::blanks);
        e.test(28, "WORDS (a .. z), LETTERS A to H (one each), NUMBERS (1 to 4 figures), one ; .", LawsEdges::eachByte);
    }

    private static void asLongAsMayBe(Edges e) {
        bad(e, 1, 0, "limitlimit");
        bad(e, 1, 0, "stampbar");
        bad(e, 1, 6, "limit 00005;");
        bad(e, 3, 6, "stamp 1800 1900;");
        bad(e, 3, 6, "bar 0 18;");
        good(e, "bar 01 2;", 1);
        bad(e, 2, 7, "limit 5limit 5;");
    }

    private static void blanks(Edges e) {
        good(e, " ".repeat(200), 0);
        good(e, "  limit  5  ;  ", 1);
        good(e, "limit5;leastA5;secondAB;", 3);
        good(e, " ".repeat(192) + "bar 0 1;", 1);
        bad(e, 1, 5, "limit\u001f5;");
        bad(e, 1, 5, "limit!5;");
        bad(e, 1, 5, "limit\t5;");
        bad(e, 1, 8, "limit 5;\n");
        bad(e, 1, 8, "limit 5;\u0000");
        bad(e, 1, 8, "limit 5;\u00a0");
        bad(e, 2, 8, "limit 1 0;");
        bad(e, 1, 0, "lim it 5;");
    }

    private static void eachByte(Edges e) {
        for (int b = 0; b < 256; b++) {
            char ch = (char) b;
            boolean letter = ch >= 'A' && ch <= 'H';
            boolean figure = ch >= '0' && ch <= '9';
            if (ch == ' ') {
                good(e, " ", 0);
            } else {
                bad(e, letter || figure || ch == ';' ? 2 : 1, 0, String.valueOf(ch));
            }
            if (letter) {
                good(e, "least " + ch + " 0;", 1);
            } else if (ch != ' ') {
                bad(e, figure || ch == ';' ? 2 : 1, 6, "least " + ch + "x 0;");
            }
            if (figure) {
                good(e, "limit " + ch + ";", 1);
                good(e, "limit 00" + ch + ";", 1);
                good(e, "limit 000" + ch + ";", 1);
                bad(e, 1, 6, "limit 0000" + ch + ";");
                bad(e, 1, 6, "limit " + ch + "9999;");
            }
            boolean small = ch >= 'a' && ch <= 'z';
            if (ch != ' ') {
                bad(e, letter || figure || ch == ';' ? 2 : 1, small ? 0 : figure ? 6 : 5, "limit" + ch);
            }
        }
        bad(e, 2, 8, "limit 5;;");
        bad(e, 2, 7, "least AB 5;");
        good(e, "second AH;", 1);
    }

    private static void runGrammar(Edges e) {
        e.test(28, "text: { law }", t -> {
            good(t, "", 0);
            good(t, "limit 5;", 1);
            good(t, "bar 0 1;".repeat(25), 25);
            good(t, "bar0 1;".repeat(28), 28);
        });
        e.test(28, "law: stamp N N N ; | bar N N ; | limit N ; | least X N ; | second X X ;",
                LawsEdges::eachTokenOfEachLaw);
        e.test(28, "stamp: a STAMP (0 to 7),", t -> {
            good(t, "stamp 0 1800 1800;stamp 7 1800 1800;", 2);
            bad(t, 3, 6, "stamp 8 1800 1800;");
            bad(t, 3, 6, "stamp 9999 1800 1800;");
            for (int s = 0; s < 8; s++) {
                t.due("stamp " + s, told("stamp " + s + " 1811 1812;").stamp(s, 0), 1811);
            }
        });
        e.test(28, "the years from which to which it was USED (1800 to 2000 each, the second one not below the first).",
                LawsEdges::yearsOfAStamp);
        e.test(28, "bar: two STAMPS that EXCLUDE one another (unlike).", LawsEdges::barOfTwo);
        e.test(28, "limit: 0 to 50.", t -> {
            t.due("the least", told("limit 0;").count(11), 0);
            t.due("the greatest", told("limit 50;").count(11), 50);
            bad(t, 3, 6, "limit 51;");
            bad(t, 3, 6, "limit 9999;");
            bad(t, 1, 6, "limit -1;");
        });
        e.test(28, "least: of a NAME (its LETTER) the least GRADE (0 to 5) that it sells.", LawsEdges::leastOfAName);
        e.test(28, "second: of a NAME another NAME to which its seconds go.", LawsEdges::secondOfAName);
    }

    private static void yearsOfAStamp(Edges e) {
        good(e, "stamp 0 1800 2000;", 1);
        good(e, "stamp 0 1800 1800;stamp 1 2000 2000;stamp 2 1900 1900;", 3);
        bad(e, 3, 8, "stamp 0 1799 1800;");
        bad(e, 3, 8, "stamp 0 2001 2001;");
        bad(e, 3, 8, "stamp 0 0 1800;");
        bad(e, 3, 13, "stamp 0 1800 1799;");
        bad(e, 3, 13, "stamp 0 1901 1900;");
        bad(e, 3, 13, "stamp 0 1800 2001;");
        bad(e, 3, 13, "stamp 0 2000 1999;");
        bad(e, 3, 13, "stamp 0 1900 9999;");
    }

    private static void barOfTwo(Edges e) {
        good(e, "bar 0 7;bar 7 0;bar 1 0;", 3);
        bad(e, 3, 4, "bar 8 0;");
        bad(e, 3, 6, "bar 0 8;");
        for (int s = 0; s < 8; s++) {
            bad(e, 3, 6, "bar " + s + " " + s + ";");
            good(e, "bar " + s + " " + (s + 1) % 8 + ";", 1);
        }
        BurlPipes x = told("bar 6 1;");
        e.due("one way", x.stamp(6, 2), 2);
        e.due("the other way", x.stamp(1, 2), 64);
        x = told("bar 1 0;bar 2 0;bar 0 3;bar 7 0;");
        e.due("all of several", x.stamp(0, 2), 142);
        x = told("bar 0 1;bar 0 2;bar 3 0;bar 0 7;");
        e.due("all of several the other way round", x.stamp(0, 2), 142);
    }

    private static void leastOfAName(Edges e) {
        for (int n = 0; n < 8; n++) {
            char letter = (char) ('A' + n);
            e.due("the least", told("least " + letter + " 0;").name(n, 0), 0);
            e.due("the greatest", told("least " + letter + " 5;").name(n, 0), 5);
            bad(e, 3, 8, "least " + letter + " 6;");
        }
        bad(e, 1, 6, "least I 0;");
        bad(e, 1, 6, "least @ 0;");
    }

    private static void secondOfAName(Edges e) {
        for (int i = 0; i < 64; i++) {
            String law = "second " + (char) ('A' + i / 8) + " " + (char) ('A' + i % 8) + ";";
            if (i / 8 == i % 8) {
                bad(e, 5, 9, law);
            } else {
                e.due(law, told(law).name(i / 8, 1), i % 8);
            }
        }
    }

    // Each token of each law is left out from there on, and changed for each kind that is not its own.
    private static void eachTokenOfEachLaw(Edges e) {
        String[][] laws = {{"stamp", "1", "1850", "1900", ";"}, {"bar", "2", "3", ";"}, {"limit", "7", ";"},
            {"least", "A", "4", ";"}, {"second", "G", "H", ";"}};
        String[] kinds = {"limit", "stamp", "A", "0", ";"};
        for (String[] law : laws) {
            good(e, String.join(" ", law), 1);
            good(e, String.join("  ", law) + " " + String.join(" ", "bar", "0", "1", ";"), 2);
            String ahead = "";
            for (int i = 0; i < law.length; i++) {
                if (i > 0) {
                    bad(e, 2, ahead.length(), ahead);
                    bad(e, 2, ahead.length() + 3, ahead + "   ");
                }
                for (String other : kinds) {
                    if (!kind(other).equals(kind(law[i]))) {
                        bad(e, 2, ahead.length(), ahead + other + " ;");
                    }
                }
                bad(e, 1, ahead.length(), ahead + "bars ;");
                bad(e, 1, ahead.length(), ahead + "12345 ;");
                bad(e, 1, ahead.length(), ahead + "? ;");
                ahead += law[i] + " ";
            }
        }
    }

    private static String kind(String token) {
        char first = token.charAt(0);
        return first == ';' ? ";" : first <= '9' ? "N" : first <= 'H' ? "X" : "word";
    }

    private static void runFaults(Edges e) {
        e.test(29, "FAULTS, the first met as it is read (a TOKEN is read when the one before has been taken):",
                LawsEdges::firstMet);
        e.test(29, "1 no TOKEN, a WORD that is none of these, a NUMBER that is too long (its first byte).",
                LawsEdges::noToken);
        e.test(29, "2 a TOKEN that can not stand there (or the end: the length).", LawsEdges::canNotStand);
        e.test(29, "3 a NUMBER out of its bounds, the second STAMP of bar that is the first one (at it).", t -> {
            bad(t, 3, 8, "limit   51;");
            bad(t, 3, 9, "bar  2   2;");
            bad(t, 3, 6, "bar 7 7;");
            bad(t, 3, 7, "bar 7  007;");
            bad(t, 3, 8, "stamp 0 1799 1799;");
        });
        e.test(29, "4 what is told already (stamp: the same STAMP, at it; limit: at its WORD; least, second: of"
                + " that NAME, at its LETTER; bar may come again).", LawsEdges::toldAlready);
        e.test(29, "5 a second that goes to itself, or with which NAMES would go round (at the second LETTER).",
                LawsEdges::goRound);
        e.test(30, "What is not told: STAMPS were USED from 1800 to 2000, none EXCLUDE one another, LIMIT 5, the"
                + " least GRADE 0, no seconds.", LawsEdges::whatIsNotTold);
    }

    private static void firstMet(Edges e) {
        // Whatever comes behind the first fault is not read, be it no token, one that can't stand there or the end.
        for (String behind : new String[] {"?", " A", " bar", ";", "; limit 51;", ""}) {
            bad(e, 3, 6, "limit 51" + behind);
            bad(e, 2, 6, "limit ;" + behind);
            bad(e, 4, 8, "limit 5;limit" + behind);
            bad(e, 3, 6, "stamp 8" + behind);
            bad(e, 4, 24, "stamp 3 1800 1900;stamp 3" + behind);
            bad(e, 3, 24, "stamp 3 1800 1900;stamp 8" + behind);
            bad(e, 3, 8, "stamp 3 1799" + behind);
            bad(e, 3, 13, "stamp 3 1800 1799" + behind);
            bad(e, 3, 4, "bar 8" + behind);
            bad(e, 3, 6, "bar 4 8" + behind);
            bad(e, 3, 6, "bar 4 4" + behind);
            bad(e, 4, 16, "least A 5;least A" + behind);
            bad(e, 2, 6, "least 5" + behind);
            bad(e, 3, 8, "least A 6" + behind);
            bad(e, 2, 7, "second 5" + behind);
            bad(e, 2, 9, "second A 5" + behind);
            bad(e, 4, 18, "second A B;second A" + behind);
            bad(e, 5, 9, "second A A" + behind);
            bad(e, 2, 8, "limit 5 limit" + behind);
            bad(e, 1, 0, "? " + behind);
        }
        bad(e, 4, 18, "second A B;second A A;");
        bad(e, 4, 8, "limit 5;limit 51;");
    }

    private static void noToken(Edges e) {
        for (String word : new String[] {"stamp", "bar", "limit", "least", "second"}) {
            bad(e, 2, word.length(), word);
            bad(e, 1, 0, word + "s");
            bad(e, 1, 0, "a" + word);
            bad(e, 1, 0, "z" + word.substring(1));
            bad(e, 1, 0, word.substring(1));
            bad(e, 1, 0, word.substring(0, word.length() - 1));
            bad(e, 1, 0, word.substring(0, word.length() - 1) + "z");
            bad(e, 1, 0, word.toUpperCase().replaceAll("[A-H]", "I"));
        }
        good(e, "limit 0050;", 1);
        bad(e, 1, 6, "limit 00050;");
        bad(e, 1, 6, "limit 99999;");
        bad(e, 1, 6, "limit " + "0".repeat(194));
        bad(e, 1, 0, "00000");
        bad(e, 1, 7, "limit 5#;");
    }

    private static void canNotStand(Edges e) {
        bad(e, 2, 0, "H");
        bad(e, 2, 0, "9");
        bad(e, 2, 7, "limit 5");
        bad(e, 2, 9, "limit 5  ");
        bad(e, 2, 7, "limit 5A;");
        bad(e, 2, 7, "least A;");
        bad(e, 2, 8, "least A A;");
        bad(e, 2, 8, "stamp 1 limit");
        bad(e, 2, 200, " ".repeat(193) + "limit 5");
    }

    private static void whatIsNotTold(Edges e) {
        notTold(e, new BurlPipes());
        BurlPipes x = State.FULL.make();
        x.end(0);
        e.due("an empty tape", x.laws(), 0);
        notTold(e, x);
        for (int tapes = 1; tapes <= 4; tapes++) {
            for (int i = 0; i < tapes; i++) {
                Check.write(x, "limit 9;stamp 0 1850 1860;bar 0 1;least A 4;second A B;");
                e.due("laws of a tape behind others", x.laws(), 5);
            }
            e.due("an empty tape behind " + tapes, x.laws(), 0);
            notTold(e, x);
        }
    }

    private static void toldAlready(Edges e) {
        for (int s = 0; s < 8; s++) {
            bad(e, 4, 24, "stamp " + s + " 1800 1900;stamp " + s + " 1800 1900;");
            good(e, "stamp " + s + " 1800 1900;stamp " + (s + 1) % 8 + " 1800 1900;", 2);
            char letter = (char) ('A' + s);
            char other = (char) ('A' + (s + 1) % 8);
            char third = (char) ('A' + (s + 2) % 8);
            bad(e, 4, 16, "least " + letter + " 0;least " + letter + " 0;");
            good(e, "least " + letter + " 0;least " + other + " 0;", 2);
            bad(e, 4, 18, "second " + letter + other + " ;second " + letter + third + " ;");
            good(e, "second " + letter + other + ";second " + third + other + ";", 2);
            good(e, "least " + letter + " 0;second " + letter + other + ";", 2);
        }
        bad(e, 4, 8, "limit 5;limit 5;");
        bad(e, 4, 16, "limit 0;bar 0 1;limit 0;");
        good(e, "bar 0 1;bar 0 1;bar 1 0;", 3);
        StringBuilder stamps = new StringBuilder();
        StringBuilder leasts = new StringBuilder();
        StringBuilder seconds = new StringBuilder();
        for (int i = 0; i < 8; i++) {
            stamps.append("stamp ").append(i).append(" 1800 1900;");
            leasts.append("least ").append((char) ('A' + i)).append(" 0;");
            seconds.append("second ").append((char) ('A' + i)).append(" H;");
        }
        seconds.setLength(7 * 11);
        for (int i = 0; i < 7; i++) {
            bad(e, 4, 8 * 18 + 6, stamps + "stamp " + i + ";");
            bad(e, 4, 8 * 10 + 6, leasts + "least " + (char) ('A' + i) + ";");
            bad(e, 4, 7 * 11 + 7, seconds + "second " + (char) ('A' + i) + ";");
        }
        BurlPipes x = new BurlPipes();
        for (int tape = 0; tape < 4; tape++) {
            Check.write(x, "limit 9;stamp 0 1850 1860;least A 4;second A B;");
            e.due("told by a tape before it is not told already", x.laws(), 4);
        }
    }

    private static void goRound(Edges e) {
        for (int n = 0; n < 8; n++) {
            char letter = (char) ('A' + n);
            bad(e, 5, 9, "second " + letter + " " + letter + ";");
        }
        StringBuilder chain = new StringBuilder();
        for (int n = 0; n < 7; n++) {
            chain.append("second ").append((char) ('A' + n)).append(' ').append((char) ('B' + n)).append(';');
            for (int back = 0; back <= n; back++) {
                String law = "second " + (char) ('B' + n) + " " + (char) ('A' + back) + ";";
                bad(e, 5, chain.length() + 9, chain + law);
            }
        }
        good(e, chain.toString(), 7);
        good(e, "second H A;second B A;second C A;second A D;", 4);
        bad(e, 5, 53, "second H A;second B A;second C A;second A D;second D C;");
        good(e, "second A B;second C D;second B C;", 3);
        bad(e, 5, 31, "second A B;second C A;second B C;");
    }

    private static void notTold(Edges e, BurlPipes x) {
        for (int i = 0; i < 8; i++) {
            e.due("from", x.stamp(i, 0), 1800);
            e.due("to", x.stamp(i, 1), 2000);
            e.due("excludes", x.stamp(i, 2), 0);
            e.due("least grade", x.name(i, 0), 0);
            e.due("seconds", x.name(i, 1), -4);
            e.due("names to go on to", x.name(i, 2), 0);
        }
        e.due("limit", x.count(11), 5);
        e.due("laws", x.count(10), 0);
    }

    private static void runLaws(Edges e) {
        e.test(28, "THE TAPE (empty then) tells all laws: how many;", LawsEdges::tellsAllLaws);
        e.test(28, "-10 less the place of its FAULT:", t -> {
            bad(t, 1, 0, "?");
            bad(t, 1, 199, " ".repeat(199) + "?");
            bad(t, 2, 200, " ".repeat(195) + "limit");
        });
        e.test(28, "those that were told stay.", LawsEdges::toldStay);
        e.test(29, "The FAULT of the latest laws(); 0.", LawsEdges::latestFault);
    }

    private static void tellsAllLaws(Edges e) {
        BurlPipes x = told("limit 9;stamp 0 1850 1860;bar 0 1;least A 4;second A B;");
        e.due("five", x.count(10), 5);
        Check.write(x, "limit 8;");
        e.due("the tape was empty", x.end(8), 8);
        e.due("one", x.laws(), 1);
        e.due("the tape is empty", x.end(0), 0);
        e.due("stamps are told anew", x.stamp(0, 0), 1800);
        e.due("bars", x.stamp(0, 2), 0);
        e.due("least grades", x.name(0, 0), 0);
        e.due("seconds", x.name(0, 1), -4);
        e.due("the limit", x.count(11), 8);
        e.due("none", x.laws(), 0);
        e.due("no limit", x.count(11), 5);
    }

    private static void latestFault(Edges e) {
        BurlPipes x = new BurlPipes();
        e.due("none yet", x.fault(), 0);
        String[] texts = {"?", ";", "limit 51;", "limit 5;limit", "second A A"};
        for (int fault = 1; fault <= 5; fault++) {
            Check.write(x, texts[fault - 1]);
            e.due("not read yet", x.fault(), fault - 1);
            x.laws();
            e.due("fault " + fault, x.fault(), fault);
            e.due("again", x.fault(), fault);
        }
        e.due("no fault", x.laws(), 0);
        e.due("the latest had none", x.fault(), 0);
    }

    private static void toldStay(Edges e) {
        String[] texts = {"limit 7;least H 3;second C D;stamp 6 1900 1901;bar 4 5;?", "limit 7;;", "limit 7;limit 51;",
            "least A 0;least A 0;", "second C D;second D C;", "stamp 1 1900 1900", "bar 5 6"};
        for (State state : State.values()) {
            for (String text : texts) {
                e.unchanged(state, x -> {
                    x.end(0);
                    Check.write(x, text);
                    e.holds("a fault in " + text, x.laws() <= -10);
                }, "tape", "fault");
            }
        }
    }

    private static void runStamp(Edges e) {
        e.test(30, "What holds: of STAMP s: 0 from, 1 to, 2 those that it EXCLUDES (bits).", LawsEdges::stampHolds);
        e.test(30, "BAD.", t -> {
            t.beside(0, 7, -1, (x, v) -> x.stamp(v, 0));
            t.beside(0, 7, -1, (x, v) -> x.stamp(v, 2));
            t.beside(0, 2, -1, (x, v) -> x.stamp(0, v));
            t.beside(0, 2, -1, (x, v) -> x.stamp(7, v));
        });
    }

    private static void stampHolds(Edges e) {
        for (int s = 0; s < 8; s++) {
            StringBuilder text = new StringBuilder("stamp " + s + " 1800 2000;");
            BurlPipes x = told(text.toString());
            e.due("from", x.stamp(s, 0), 1800);
            e.due("to", x.stamp(s, 1), 2000);
            e.due("excludes none", x.stamp(s, 2), 0);
            text = new StringBuilder("stamp " + s + " 1999 1999;");
            for (int other = 0; other < 8; other++) {
                text.append(other == s ? "" : "bar " + s + " " + other + ";");
            }
            x = told(text.toString());
            e.due("laws", x.count(10), 8);
            e.due("from", x.stamp(s, 0), 1999);
            e.due("to", x.stamp(s, 1), 1999);
            e.due("excludes all others", x.stamp(s, 2), 255 - (1 << s));
            e.due("is excluded by the next", x.stamp((s + 1) % 8, 2), 1 << s);
            e.due("the next is used always", x.stamp((s + 1) % 8, 0), 1800);
        }
    }

    private static void runName(Edges e) {
        e.test(31, "Of a NAME: 0 its least GRADE, 1 where its seconds go (NONE), 2 how many NAMES one can go on to"
                + " from it.",
                LawsEdges::nameHolds);
        e.test(31, "BAD.", t -> {
            t.beside(0, 7, -1, (x, v) -> x.name(v, 0));
            t.beside(0, 7, -1, (x, v) -> x.name(v, 2));
            t.beside(0, 2, -1, (x, v) -> x.name(0, v));
            t.beside(0, 2, -1, (x, v) -> x.name(7, v));
            t.refused(State.LADEN, -1, x -> x.name(MIN, MIN), x -> x.name(MAX, MAX));
        });
    }

    private static void nameHolds(Edges e) {
        notTold(e, new BurlPipes());
        BurlPipes x = told("second H G;second G F;second F E;second E D;second D C;second C B;second B A;least A 5;"
                + "least H 5;");
        e.due("laws", x.count(10), 9);
        for (int n = 0; n < 8; n++) {
            e.due("least grade of " + n, x.name(n, 0), n == 0 || n == 7 ? 5 : 0);
            e.due("seconds of " + n, x.name(n, 1), n == 0 ? -4 : n - 1);
            e.due("names from " + n, x.name(n, 2), n);
        }
    }
}
