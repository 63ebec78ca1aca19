/** Promises 36 to 39: sheets, a burl drawn of them, counts. */
public final class SheetsTest {
    private static final Check C = new Check("SheetsTest");

    public static void main(String[] args) {
        sheet();
        lay();
        lanes();
        draw();
        drawRefused();
        drawUndone();
        count();
        C.end();
    }

    private static void sheet() {
        BurlPipes x = new BurlPipes();
        C.due("36: k", x.sheet(-1, 0, 1), -1);
        C.due("36: k", x.sheet(4, 0, 1), -1);
        C.due("36: lane", x.sheet(0, -1, 1), -1);
        C.due("36: lane", x.sheet(0, 3, 1), -1);
        C.due("36: n", x.sheet(0, 0, 65), -1);
        C.due("36: below 0", x.sheet(0, 0, -1), -14);
        C.due("36: below 0", x.sheet(3, 2, Integer.MIN_VALUE), -14);
        C.due("36: k before size", x.sheet(4, 0, -1), -1);
        C.due("36: lane before size", x.sheet(0, 3, -1), -1);
        C.due("36: still nothing", x.count(5), -4);
        C.due("36: no cells", x.sheet(0, 0, 0), 1);
        C.due("36: no cells", x.count(5), 0);
        C.due("36: no cell to lay", x.lay(0, 0, 1), -12);
        C.due("36: the most", x.sheet(0, 1, 64), 1);
        C.due("36: the most", x.count(5), 64);
        x.burl(1, 1);
        x.lay(0, 0, 10);
        C.due("36: a crack", x.draw(0, 1, 0), 1);
        C.due("36: refused", x.sheet(0, 2, -5), -14);
        C.due("36: the row stays", x.draw(0, 1, 0), 1);
        C.due("36: a new row", x.sheet(0, 1, 64), 1);
        C.due("36: of cells 0", x.draw(0, 1, 0), 0);
        C.due("36: of cells 0", x.grain(0, 0, 5), 0);
        C.due("36: the last cell too", x.draw(0, 1, 63), 0);
        C.due("36: the last cell too", x.grain(0, 0, 5), 0);
    }

    private static void lay() {
        BurlPipes x = new BurlPipes();
        C.due("37: nothing", x.lay(1, 0, 0), -11);
        C.due("37: nothing before index", x.lay(1, -1, 0), -11);
        C.due("37: k", x.lay(4, 0, 0), -1);
        C.due("37: k", x.lay(-1, 0, 0), -1);
        x.sheet(1, 2, 3);
        C.due("37: first", x.lay(1, 0, 0), 1);
        C.due("37: last", x.lay(1, 2, 0), 1);
        C.due("37: behind it", x.lay(1, 3, 0), -12);
        C.due("37: ahead of it", x.lay(1, -1, 0), -12);
        C.due("37: far off", x.lay(1, Integer.MAX_VALUE, 0), -12);
    }

    private static int drawn(int lane, int v) {
        BurlPipes x = new BurlPipes();
        x.burl(1, 1);
        x.sheet(2, lane, 1);
        x.lay(2, 0, v);
        int answer = x.draw(2, lane, 0);
        return answer == 0 ? x.grain(0, 0, 0) : answer == 1 ? 10 : answer;
    }

    private static void lanes() {
        for (int lane = 0; lane < 3; lane++) {
            for (int v = 0; v <= 10; v++) {
                C.due("38: cell " + v, drawn(lane, v), v);
            }
            C.due("38: cell 11", drawn(lane, 11), -100);
            C.due("38: cell -1", drawn(lane, -1), -100);
        }
        C.due("37: byte 256 + 9", drawn(0, 256 + 9), 9);
        C.due("37: byte -256 + 10", drawn(0, -256 + 10), 10);
        C.due("37: short 256 + 9", drawn(1, 256 + 9), -100);
        C.due("37: short 65536 + 9", drawn(1, 65536 + 9), 9);
        C.due("37: int 65536 + 9", drawn(2, 65536 + 9), -100);
        C.due("37: int, the least", drawn(2, Integer.MIN_VALUE), -100);
    }

    private static void draw() {
        BurlPipes x = new BurlPipes();
        x.burl(3, 2);
        x.grain(0, 0, 9);
        x.crack(0, 0, true);
        x.sheet(3, 1, 8);
        int[] cells = {11, 1, 2, 10, 4, 5, 10, 11};
        for (int i = 0; i < cells.length; i++) {
            x.lay(3, i, cells[i]);
        }
        C.due("38: cracks", x.draw(3, 1, 1), 2);
        C.due("38: an act", x.count(9), 3);
        int[] grain = {1, 2, 0, 4, 5, 0};
        int[] crack = {0, 0, 1, 0, 0, 1};
        for (int i = 0; i < 6; i++) {
            C.due("38: crack of square " + i, x.crack(i % 3, i / 3, false), crack[i]);
            C.due("38: grain of square " + i, x.grain(i % 3, i / 3, 0), grain[i]);
        }
    }

    private static void drawRefused() {
        BurlPipes x = new BurlPipes();
        x.burl(2, 2);
        x.crack(1, 1, true);
        C.due("38: k", x.draw(-1, 0, 0), -1);
        C.due("38: k", x.draw(4, 0, 0), -1);
        C.due("38: lane", x.draw(0, 3, 0), -1);
        C.due("38: lane", x.draw(0, -1, 0), -1);
        C.due("38: nothing", x.draw(0, 0, 0), -11);
        x.sheet(0, 2, 5);
        C.due("38: another lane", x.draw(0, 0, 0), -13);
        C.due("38: another lane", x.draw(0, 1, -7), -13);
        C.due("38: index", x.draw(0, 2, -1), -12);
        C.due("38: index", x.draw(0, 2, 5), -12);
        C.due("38: index of the last cell", x.draw(0, 2, 2), -12);
        C.due("38: index far off", x.draw(0, 2, Integer.MAX_VALUE), -12);
        C.due("38: index far off", x.draw(0, 2, Integer.MIN_VALUE), -12);
        x.lay(0, 3, 11);
        C.due("38: a cell that is none such", x.draw(0, 2, 0), -103);
        C.due("38: it is met before the index", x.draw(0, 2, 2), -101);
        C.due("38: the index is met first", x.draw(0, 2, 4), -12);
        C.due("38: nothing changed", x.count(2), 1);
        C.due("38: no act", x.count(9), 1);
        x.sheet(0, 2, 0);
        C.due("38: no cells", x.draw(0, 2, 0), -12);
    }

    private static void drawUndone() {
        BurlPipes x = new BurlPipes();
        x.burl(8, 8);
        x.crack(7, 7, true);
        x.grain(3, 3, 3);
        x.sheet(0, 0, 64);
        for (int i = 0; i < 64; i++) {
            x.lay(0, i, i % 11);
        }
        C.due("38: cracks of all 64", x.draw(0, 0, 0), 5);
        C.due("13: all of it is one act", x.undo(), 2);
        C.due("13: one crack", x.count(2), 1);
        C.due("13: that one", x.crack(7, 7, true), 1);
        C.due("13: grain is back", x.grain(3, 3, 3), 3);
        C.due("13: and is 0 elsewhere", x.grain(1, 0, 0), 0);
        C.due("38: index: 65 cells", x.draw(0, 0, 1), -12);
    }

    private static void count() {
        BurlPipes x = new BurlPipes();
        x.shape(1, 1, 1, 0, false);
        x.sheet(0, 0, 7);
        x.sheet(1, 0, 9);
        x.world();
        x.store(1, 1, 1, 1);
        x.store(1, 1, 1, 1);
        x.order(0, 0, 1);
        x.crack(0, 0, true);
        x.pipe(0, 0, 0, 0, 0, 50, 0);
        x.pipe(0, 0, 0, 0, 0, 50, 1);
        x.pipe(1, 0, 0, 0, 0, 50, 2);
        Check.write(x, "limit 49;least A 1;second A C;");
        x.laws();
        int[] due = {1, 3, 1, 16, 1, 7, 1, 2, 1, 1, 3, 49, 1};
        for (int what = 0; what < due.length; what++) {
            C.due("39: count(" + what + ")", x.count(what), due[what]);
        }
        for (int bad : new int[] {-1, 13, Integer.MIN_VALUE, Integer.MAX_VALUE}) {
            C.due("39: what " + bad, x.count(bad), -1);
        }
    }
}
