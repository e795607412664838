/** Promises 34 to 40: images, sheets. */
public final class SheetPromisesTest {
    public static void main(String[] args) {
        images();
        sheet();
        lay();
        read();
        readRefused();
        torn();
        count();
        constants();
        Checks.finish();
    }

    private static void images() {
        SlackArms x = Checks.told("worn 1;lag 0;on 7;back 6;");
        x.steps(4);
        Checks.due("35: back(0), none", x.back(0), SlackArms.STATE);
        Checks.due("34: keep(2)", x.keep(2), -1);
        Checks.due("34: keep(-1)", x.keep(-1), -1);
        Checks.due("35: back(2)", x.back(2), -1);
        Checks.due("35: back(-1)", x.back(-1), -1);
        Checks.due("34: keep(0)", x.keep(0), 0);
        Checks.due("34: keep(0) again", x.keep(0), 1);
        Checks.due("40: images", x.count(1), 1);
        Checks.due("35: back(1), none", x.back(1), SlackArms.STATE);
        String before = Checks.state(x);
        x.steps(3);
        x.alter(0, 0, 0);
        x.alter(0, 1, 7);
        x.alter(0, 2, 8);
        x.set(0, 3);
        x.add(5);
        x.pull(0);
        x.cut(1);
        x.hang(3, 3);
        x.hang(2, 2);
        Checks.holds("34: much has changed", !before.equals(Checks.state(x)));
        Checks.due("35: back(0)", x.back(0), 4);
        Checks.holds("35: all is as it was", before.equals(Checks.state(x)));
        x.drop(0);
        x.cut(0);
        Checks.due("35: back(0), a second time", x.back(0), 4);
        Checks.holds("35: all is as it was again", before.equals(Checks.state(x)));
        x.steps(1);
        Checks.due("34: keep(1)", x.keep(1), 0);
        Checks.due("40: images", x.count(1), 2);
        Checks.due("35: back(0)", x.back(0), 4);
        Checks.due("35: back(1)", x.back(1), 5);
        Checks.due("35: step", x.rule(2), 5);
        x.keep(0);
        Checks.due("34: the later one is kept", x.back(0), 5);
        x.see(0, 0, 200000);
        x.feed(32);
        x.sheet(0, 0, 7);
        x.back(0);
        Checks.due("35: what is seen stays", x.count(0), 1);
        Checks.due("35: the tape stays", x.count(2), 1);
        Checks.due("35: sheets stay", x.count(3), 7);
    }

    private static void sheet() {
        SlackArms x = new SlackArms();
        Checks.due("36: sheet(0, 0, 40)", x.sheet(0, 0, 40), 1);
        Checks.due("36: cells", x.count(3), 40);
        Checks.due("36: sheet(0, 2, 0)", x.sheet(0, 2, 0), 1);
        Checks.due("36: no cells", x.count(3), 0);
        Checks.due("36: sheet(0, 1, -1)", x.sheet(0, 1, -1), -14);
        Checks.due("36: sheet(0, 1, MIN)", x.sheet(0, 1, Integer.MIN_VALUE), -14);
        Checks.due("36: the row stays", x.count(3), 0);
        Checks.due("36: of its lane", x.read(0, 2, 0, 1) * 10 + x.torn(), 2);
        Checks.due("36: sheet(4, 0, 1)", x.sheet(4, 0, 1), -1);
        Checks.due("36: sheet(-1, 0, 1)", x.sheet(-1, 0, 1), -1);
        Checks.due("36: sheet(0, 3, 1)", x.sheet(0, 3, 1), -1);
        Checks.due("36: sheet(0, -1, 1)", x.sheet(0, -1, 1), -1);
        Checks.due("36: sheet(0, 0, 41)", x.sheet(0, 0, 41), -1);
        Checks.due("36: BAD ahead of the fault", x.sheet(4, 0, -1), -1);
        Checks.due("36: BAD ahead of the fault", x.sheet(0, 3, -1), -1);
        x.sheet(3, 1, 2);
        x.lay(3, 0, 16);
        x.lay(3, 1, 17);
        x.sheet(3, 1, 2);
        x.read(3, 1, 0, 2);
        Checks.due("36: new cells are 0", x.stroke(0), 1);
        Checks.due("36: new cells are 0", x.stroke(1), 1);
        Checks.due("36: others stay", x.count(3), 0);
    }

    private static void laid(int lane, int v, int due) {
        SlackArms x = new SlackArms();
        x.sheet(2, lane, 3);
        Checks.due("37: lay", x.lay(2, 1, v), 1);
        int came = x.read(2, lane, 1, 1);
        int got = came == 1 ? x.stroke(0) - 1 : came;
        Checks.due("37: what lies there, lane " + lane + ", of " + v, got, due);
    }

    private static void lay() {
        laid(0, 12, 12);
        laid(0, 256 + 12, 12);
        laid(0, -256 + 18, 18);
        laid(0, 255, -20);
        laid(0, 65536 * 3 + 5, 5);
        laid(1, 256 + 12, -20);
        laid(1, 65536 + 12, 12);
        laid(1, -65536, 0);
        laid(1, 65535, -20);
        laid(2, 65536 + 12, -20);
        laid(2, 18, 18);
        laid(2, 19, -20);
        laid(2, Integer.MIN_VALUE, -20);
        SlackArms x = new SlackArms();
        x.sheet(1, 1, 6);
        Checks.due("37: lay(1, 5, 1)", x.lay(1, 5, 1), 1);
        Checks.due("37: lay(1, 0, 1)", x.lay(1, 0, 1), 1);
        Checks.due("37: lay(1, 6, 1)", x.lay(1, 6, 1), -12);
        Checks.due("37: lay(1, -1, 1)", x.lay(1, -1, 1), -12);
        Checks.due("37: lay(1, MAX, 1)", x.lay(1, Integer.MAX_VALUE, 1), -12);
        Checks.due("37: lay(1, MIN, 1)", x.lay(1, Integer.MIN_VALUE, 1), -12);
        Checks.due("37: lay(0, 0, 1), nothing", x.lay(0, 0, 1), -11);
        Checks.due("37: lay(0, -1, 1), nothing", x.lay(0, -1, 1), -11);
        Checks.due("37: lay(4, 0, 1)", x.lay(4, 0, 1), -1);
        Checks.due("37: lay(-1, 0, 1)", x.lay(-1, 0, 1), -1);
        x.sheet(0, 0, 0);
        Checks.due("37: a row without cells", x.lay(0, 0, 1), -12);
    }

    private static SlackArms withSheet() {
        SlackArms x = Checks.told("on 1;");
        x.sheet(1, 0, 6);
        int[] cells = {0, 18, 9, 12, 3, 19};
        for (int i = 0; i < cells.length; i++) {
            x.lay(1, i, cells[i]);
        }
        return x;
    }

    private static void read() {
        SlackArms x = withSheet();
        Checks.due("38: four", x.read(1, 0, 1, 4), 4);
        Checks.due("39: no fault", x.torn(), 0);
        int[] due = {11, 19, 10, 13, 4};
        for (int i = 0; i < due.length; i++) {
            Checks.due("38: stroke " + i, x.stroke(i), due[i]);
        }
        Checks.due("38: none asked for", x.read(1, 0, 0, 0), 0);
        Checks.due("38: five", x.rule(1), 5);
        int[][] bad = {{4, 0, 0, 1}, {-1, 0, 0, 1}, {1, 3, 0, 1}, {1, -1, 0, 1}, {1, 0, 0, 41}, {1, 0, 0, -1}};
        for (int[] b : bad) {
            Checks.due("38: wrong numbers", x.read(b[0], b[1], b[2], b[3]), -1);
        }
        x.lay(1, 5, 1);
        Checks.due("38: those ahead of the end came", x.read(1, 0, 3, 40), 3);
        Checks.due("39: an index", x.torn(), 2);
        Checks.due("38: eight", x.rule(1), 8);
        Checks.due("38: the last one", x.stroke(7), 2);
        Checks.due("38: from far off", x.read(1, 0, Integer.MAX_VALUE, 2), 0);
        Checks.due("38: from far below", x.read(1, 0, Integer.MIN_VALUE, 2), 0);
        Checks.due("38: from -1", x.read(1, 0, -1, 3), 0);
        Checks.due("39: an index", x.torn(), 2);
        Checks.due("38: eight still", x.rule(1), 8);
    }

    private static void readRefused() {
        SlackArms x = withSheet();
        Checks.due("38: the sixth is no stroke", x.read(1, 0, 0, 6), -25);
        Checks.due("38: none came", x.rule(1), 1);
        Checks.due("38: the second is no stroke", x.read(1, 0, 4, 2), -21);
        Checks.due("38: met ahead of the end of the row", x.read(1, 0, 4, 9), -21);
        Checks.due("38: the first is no stroke", x.read(1, 0, 5, 1), -20);
        x.lay(1, 5, -1);
        Checks.due("38: nor is one below 0", x.read(1, 0, 5, 1), -20);
        for (int i = 0; i < 12; i++) {
            x.add(9);
        }
        Checks.due("38: the fourth is one too many", x.read(1, 0, 0, 5), -23);
        Checks.due("38: none came", x.rule(1), 13);
        Checks.due("38: three fit", x.read(1, 0, 0, 3), 3);
        Checks.due("38: sixteen", x.rule(1), 16);
        Checks.due("38: none fits", x.read(1, 0, 0, 1), -20);
        Checks.due("38: the machine is first", x.read(1, 0, 6, 1), 0);
        Checks.due("38: none is asked for", x.read(1, 0, 0, 0), 0);
    }

    private static void torn() {
        SlackArms x = withSheet();
        Checks.due("39: at first", x.torn(), 0);
        Checks.due("38: nothing", x.read(0, 0, 0, 1), 0);
        Checks.due("39: NULL", x.torn(), 1);
        Checks.due("38: nothing, of any lane", x.read(0, 2, -1, 1), 0);
        Checks.due("39: NULL", x.torn(), 1);
        Checks.due("38: another lane", x.read(1, 1, 0, 1), 0);
        Checks.due("39: CAST", x.torn(), 3);
        Checks.due("38: another lane, no such cell", x.read(1, 2, 99, 1), 0);
        Checks.due("39: CAST", x.torn(), 3);
        Checks.due("38: BAD", x.read(1, 0, 0, 41), -1);
        Checks.due("39: that read came to no end", x.torn(), 3);
        Checks.due("38: refused by add()", x.read(1, 0, 5, 1), -20);
        Checks.due("39: nor did that", x.torn(), 3);
        Checks.due("38: no such cell", x.read(1, 0, 6, 1), 0);
        Checks.due("39: INDEX", x.torn(), 2);
        Checks.text(x, "on 2;");
        Checks.due("39: a text says nothing of it", x.torn(), 2);
        Checks.due("38: all is well", x.read(1, 0, 0, 1), 1);
        Checks.due("39: no fault", x.torn(), 0);
        x.read(0, 0, 0, 1);
        Checks.due("38: no cells asked for", x.read(0, 0, 0, 0), 0);
        Checks.due("39: nothing was met", x.torn(), 0);
        int[] lanes = {0, 1, 2};
        for (int is : lanes) {
            x.sheet(2, is, 1);
            for (int as : lanes) {
                x.read(2, as, 0, 1);
                Checks.due("39: lane " + is + " as " + as, x.torn(), is == as ? 0 : 3);
            }
        }
    }

    private static void count() {
        SlackArms x = Checks.told("worn 1;lag 9;plain 9;stick 9;on 9;back 9;");
        x.steps(2);
        x.see(0, 0, 200000);
        x.see(0, 1, 200000);
        x.keep(1);
        Checks.feed(x, "abc");
        x.sheet(0, 0, 11);
        x.sheet(1, 0, 12);
        x.alter(3, 2, 7);
        int[] due = {2, 1, 3, 11, 28, 8};
        for (int what = 0; what <= 5; what++) {
            Checks.due("40: count(" + what + ")", x.count(what), due[what]);
        }
        Checks.due("40: count(6)", x.count(6), -1);
        Checks.due("40: count(-1)", x.count(-1), -1);
        x.cut(3);
        Checks.due("40: slack of those left", x.count(4), 19);
        Checks.due("40: turns of those left", x.count(5), 1);
        Checks.due("40: no sheet 0", new SlackArms().count(3), SlackArms.NONE);
    }

    private static void constants() {
        Checks.due("BAD", SlackArms.BAD, -1);
        Checks.due("STATE", SlackArms.STATE, -2);
        Checks.due("FULL", SlackArms.FULL, -3);
        Checks.due("NONE", SlackArms.NONE, -4);
    }
}
