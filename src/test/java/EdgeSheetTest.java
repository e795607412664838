/** Promises 34 to 40 at their edges: images, sheets, how many. */
public final class EdgeSheetTest {
    private static final String TWO = "tell 'worn 1;lag 0;on 7;back 6;'\nsteps(4)\n";
    /** Four sheets: none but the last cell of each is 18. */
    private static final String SHEETS = """
            sheet(0,0,1)
            lay(0,0,18)
            sheet(1,1,2)
            lay(1,1,18)
            sheet(2,2,40)
            lay(2,39,18)
            """;

    public static void main(String[] args) {
        keep();
        back();
        backToLessAndMore();
        sheet();
        lay();
        lowestBits();
        read();
        readAtTheEndsOfARow();
        readRefusedByAdd();
        readOfNothingOrOfAnotherLane();
        torn();
        count();
        countAtItsEnds();
        constants();
        Checks.finish();
    }

    private static void keep() {
        Run.bounds(34, TWO, "keep(#)", 0, 0, 1, 0);
        Run.bounds(34, TWO + "keep(0)\nsteps(1)\nkeep(1)\nsteps(1)", "keep(#)", 0, 1, 1, 1);
        Run.check(34, "each by itself", TWO + """
                keep(1) 0
                count(1) 1
                back(0) STATE
                keep(0) 0
                count(1) 2
                keep(1) 1
                """);
        Run.check(34, "the latest is kept", TWO + """
                keep(0) 0
                steps(1)
                keep(0) 1
                steps(1)
                back(0) 5
                rule(2) 5
                """);
        Run.check(34, "of nothing", """
                keep(0) 0
                hang(0,0)
                add(18)
                steps(1)
                back(0) 0
                rule(0) 0
                rule(1) 0
                rule(3) 200000
                """);
    }

    private static void back() {
        Run.bounds(35, TWO + "keep(0)\nsteps(1)\nkeep(1)\nsteps(1)", "back(#)", 0, 4, 1, 5);
        Run.check(35, "STATE: there is none", TWO + """
                back(0) STATE
                back(1) STATE
                keep(0) 0
                back(1) STATE
                """);
        Run.check(35, "STATE: there is none in place 0", TWO + """
                keep(1) 0
                back(0) STATE
                """);
        Run.check(35, "STATE: none behind a text", TWO + """
                keep(0) 0
                keep(1) 0
                tell ''
                back(0) STATE
                back(1) STATE
                """);
        Run.check(35, "a text that is refused takes none away", TWO + """
                keep(0) 0
                type '!'
                text() -10
                back(0) 4
                """);
        Run.check(35, "BAD ahead of STATE", """
                back(2) BAD
                back(-1) BAD
                """);
        Run.check(35, "the image stays, whatever comes behind it", TWO + """
                keep(0) 0
                back(0) 4
                count(1) 1
                alter(0,1,9) 1
                set(0,0) 16
                pull(0)
                back(0) 4
                arm(0,1) 1
                stroke(0) 17
                rule(3) 200002
                """);
    }

    private static void backToLessAndMore() {
        String most = """
                hang(0,1)
                hang(1,2)
                hang(2,3)
                hang(3,4)
                15 times add(18)
                add(0)
                steps(17)
                alter(3,2,9)
                keep(0)
                """;
        String all = """
                rule(0) 4
                rule(1) 16
                rule(2) 17
                rule(3) 200135
                stroke(0) 19
                stroke(14) 19
                stroke(15) 1
                arm(3,0) 3
                arm(3,1) 4
                arm(3,3) 9
                arm(3,4) 2
                arm(0,3) 2
                arm(0,4) 2
                arm(0,2) 200134
                """;
        Run.check(35, "all arms, all strokes", most + "cut(0)\ndrop(0)\nback(0) 17\n" + all);
        Run.check(35, "others have come in their place", most + """
                cut(0)
                drop(0)
                pull(0)
                4 times hang(2,9)
                16 times add(9)
                steps(100)
                back(0) 17
                """ + all);
        Run.check(35, "more than in the image is gone", """
                hang(0,1)
                add(18)
                keep(1)
                3 times hang(3,3)
                15 times add(0)
                back(1) 0
                rule(0) 1
                rule(1) 1
                arm(1,0) BAD
                stroke(1) BAD
                count(4) 1
                """);
        Run.check(35, "what is seen, the tape, the sheets are no part of it", TWO + """
                keep(0) 0
                see(0,0,200001) 1
                type 'abc'
                sheet(0,2,5) 1
                back(0) 4
                count(0) 1
                count(2) 3
                count(3) 5
                """);
    }

    private static void sheet() {
        Run.bounds(36, SHEETS, "sheet(#,0,1)", 0, 1, 3, 1);
        Run.bounds(36, SHEETS, "sheet(0,#,1)", 0, 1, 2, 1);
        Run.check(36, "0 to 40 cells", SHEETS + """
                sheet(0,0,0) 1
                count(3) 0
                sheet(0,0,40) 1
                count(3) 40
                sheet(0,0,41) BAD
                sheet(0,0,MAX) BAD
                count(3) 40
                """);
        Run.check(36, "SIZE: below 0", SHEETS + """
                sheet(0,0,-1) -14
                sheet(1,1,-40) -14
                sheet(2,2,MIN) -14
                sheet(3,0,-1) -14
                lay(3,0,0) -11
                count(3) 1
                torn() 0
                """);
        Run.check(36, "BAD ahead of SIZE", """
                sheet(4,0,-1) BAD
                sheet(-1,0,-1) BAD
                sheet(0,3,-1) BAD
                sheet(0,-1,-1) BAD
                sheet(4,3,41) BAD
                """);
        Run.check(36, "its cells are 0, whatever was there", """
                sheet(3,2,40)
                lay(3,0,18)
                lay(3,39,18)
                sheet(3,2,0)
                sheet(3,2,40) 1
                read(3,2,0,1) 1
                read(3,2,39,1) 1
                stroke(0) 1
                stroke(1) 1
                """);
        Run.check(36, "another lane, fewer cells, in place of what was there", """
                sheet(3,2,40)
                sheet(3,0,1) 1
                read(3,0,0,40) 1
                torn() 2
                read(3,2,0,1) 0
                torn() 3
                """);
    }

    private static void lay() {
        Run.bounds(37, SHEETS + "sheet(3,0,1)", "lay(#,0,5)", 0, 1, 3, 1);
        Run.check(37, "NULL: nothing", """
                lay(0,0,5) -11
                lay(3,0,5) -11
                lay(0,-1,5) -11
                lay(0,MAX,5) -11
                """);
        Run.check(37, "INDEX", SHEETS + """
                lay(0,0,5) 1
                lay(0,1,6) -12
                lay(0,-1,6) -12
                lay(2,0,5) 1
                lay(2,39,5) 1
                lay(2,40,6) -12
                lay(2,-1,6) -12
                lay(2,MIN,6) -12
                lay(2,MAX,6) -12
                """);
        Run.check(37, "INDEX: a row without cells", """
                sheet(0,0,0)
                lay(0,0,5) -12
                lay(0,-1,5) -12
                """);
        Run.check(37, "BAD ahead of NULL, of INDEX", """
                lay(4,0,5) BAD
                lay(-1,0,5) BAD
                lay(4,-1,5) BAD
                """);
        Run.check(37, "torn() is of read() alone", """
                lay(0,0,5) -11
                torn() 0
                """);
    }

    /** What a cell of that lane is, if v is laid there: 0 to 18, or none of these. */
    private static void bits(int lane, String v, int cell) {
        String read = cell < 0 ? "read(1," + lane + ",0,1) -20\n" : "read(1," + lane + ",0,1) 1\nstroke(0) " + (cell + 1);
        Run.check(37, "lane " + lane + ": the lowest bits of " + v, "sheet(1," + lane + ",1)\nlay(1,0," + v + ") 1\n" + read);
    }

    private static void lowestBits() {
        String[] bytes = {"18", "19", "-1", "127", "128", "255", "256", "274", "275", "-256", "-238", "MIN", "MAX"};
        int[] asByte = {18, -1, -1, -1, -1, -1, 0, 18, -1, 0, 18, 0, -1};
        for (int i = 0; i < bytes.length; i++) {
            bits(0, bytes[i], asByte[i]);
        }
        String[] shorts = {"18", "19", "-1", "256", "32767", "32768", "65535", "65536", "65554", "65555", "-65536", "MIN", "MAX"};
        int[] asShort = {18, -1, -1, -1, -1, -1, -1, 0, 18, -1, 0, 0, -1};
        for (int i = 0; i < shorts.length; i++) {
            bits(1, shorts[i], asShort[i]);
        }
        String[] ints = {"0", "18", "19", "-1", "256", "65536", "65554", "MIN", "MAX"};
        int[] asInt = {0, 18, -1, -1, -1, -1, -1, -1, -1};
        for (int i = 0; i < ints.length; i++) {
            bits(2, ints[i], asInt[i]);
        }
    }

    private static void read() {
        String full = "sheet(0,0,4)\nsheet(1,0,4)\nsheet(2,0,4)\nsheet(3,0,4)";
        Run.bounds(38, full, "read(#,0,0,1)", 0, 1, 3, 1);
        Run.bounds(38, "sheet(0,0,4)", "read(0,#,0,1)", 0, 1, 2, 0);
        Run.bounds(38, "sheet(0,2,4)", "read(0,#,0,1)", 0, 0, 2, 1);
        Run.bounds(38, "sheet(0,0,16)", "read(0,0,0,#)", 0, 0, 40, 16);
        Run.check(38, "none is asked for", """
                sheet(0,0,4)
                read(0,0,0,0) 0
                torn() 0
                rule(1) 0
                read(0,0,99,0) 0
                torn() 0
                """);
        Run.check(38, "one behind another, behind those there are", """
                add(18)
                sheet(0,1,3)
                lay(0,0,1)
                lay(0,1,2)
                lay(0,2,3)
                read(0,1,1,2) 2
                stroke(0) 19
                stroke(1) 3
                stroke(2) 4
                rule(1) 3
                """);
        Run.check(38, "BAD, whatever else is wrong", """
                read(4,0,0,1) BAD
                read(-1,0,0,1) BAD
                read(0,3,0,1) BAD
                read(0,-1,0,1) BAD
                read(0,0,0,41) BAD
                read(0,0,0,-1) BAD
                read(0,0,-1,41) BAD
                """);
    }

    private static void readAtTheEndsOfARow() {
        Run.check(38, "the last cell, and beyond it", SHEETS + """
                read(2,2,39,1) 1
                torn() 0
                stroke(0) 19
                read(2,2,40,1) 0
                torn() 2
                read(2,2,39,2) 1
                torn() 2
                rule(1) 2
                """);
        Run.check(38, "ahead of the first cell", SHEETS + """
                read(2,2,-1,1) 0
                torn() 2
                read(2,2,-1,2) 0
                rule(1) 0
                """);
        Run.check(38, "cells far off: numbers wrap around, none came", SHEETS + """
                read(2,2,MAX,40) 0
                torn() 2
                read(2,2,0,1) 1
                torn() 0
                read(2,2,MIN,40) 0
                torn() 2
                rule(1) 1
                """);
        Run.check(38, "a row without cells", """
                sheet(0,0,0)
                read(0,0,0,1) 0
                torn() 2
                read(0,0,0,0) 0
                torn() 0
                """);
        Run.check(38, "those ahead of the fault came", """
                sheet(0,0,16)
                read(0,0,0,40) 16
                torn() 2
                rule(1) 16
                """);
    }

    private static void readRefusedByAdd() {
        Run.check(38, "the 17th is one too many: none came", SHEETS + """
                read(2,2,0,17) -36
                rule(1) 0
                read(2,2,0,40) -36
                read(2,2,0,16) 16
                rule(1) 16
                read(2,2,0,1) -20
                read(2,2,0,0) 0
                """);
        Run.check(38, "one fits", SHEETS + """
                15 times add(9)
                read(2,2,38,2) -21
                rule(1) 15
                read(2,2,38,1) 1
                rule(1) 16
                """);
        Run.check(38, "a cell beyond 0 to 18, at either end", """
                sheet(0,2,4)
                lay(0,1,18)
                lay(0,2,19)
                lay(0,3,-1)
                read(0,2,0,2) 2
                read(0,2,0,3) -22
                read(0,2,2,1) -20
                read(0,2,3,1) -20
                rule(1) 2
                """);
        Run.check(38, "the first met: the one refused, then the end of the row", """
                sheet(0,2,2)
                lay(0,1,19)
                read(0,2,0,40) -21
                rule(1) 0
                torn() 0
                """);
        Run.check(38, "the first met: the end of the row, then one too many", """
                16 times add(9)
                sheet(0,2,2)
                read(0,2,2,1) 0
                torn() 2
                read(0,2,1,2) -20
                torn() 2
                """);
        Run.check(38, "a fault of the machine ahead of one too many: those ahead came", """
                14 times add(9)
                sheet(0,2,2)
                read(0,2,0,40) 2
                torn() 2
                rule(1) 16
                """);
    }

    private static void readOfNothingOrOfAnotherLane() {
        for (int k = 0; k <= 3; k++) {
            for (int lane = 0; lane <= 2; lane++) {
                String call = "read(" + k + "," + lane + ",";
                Run.check(38, "nothing", call + "0,1) 0\ntorn() 1\n" + call + "-1,40) 0\ntorn() 1\nrule(1) 0\n");
                String made = "sheet(" + k + "," + (lane + 1) % 3 + ",4)\n";
                Run.check(38, "another lane", made + call + "0,1) 0\ntorn() 3\n" + call + "4,40) 0\ntorn() 3\nrule(1) 0\n");
                String other = "sheet(" + k + "," + (lane + 2) % 3 + ",0)\n";
                Run.check(38, "another lane, no cells", other + call + "0,1) 0\ntorn() 3\nrule(1) 0\n");
            }
        }
        Run.check(38, "strokes are full, but the machine is asked first", SHEETS + """
                16 times add(9)
                read(3,0,0,1) 0
                torn() 1
                read(2,0,0,1) 0
                torn() 3
                """);
    }

    private static void torn() {
        Run.check(39, "0 at first, and of a read() without fault", """
                torn() 0
                sheet(0,0,1)
                torn() 0
                read(0,0,0,1) 1
                torn() 0
                """);
        Run.check(39, "the latest that came to an end", SHEETS + """
                read(3,0,0,1) 0
                torn() 1
                read(0,0,1,1) 0
                torn() 2
                read(0,1,0,1) 0
                torn() 3
                read(0,0,0,1) 1
                torn() 0
                """);
        Run.check(39, "one that is BAD came to no end", SHEETS + """
                read(0,0,1,1) 0
                read(4,0,0,1) BAD
                read(0,3,0,1) BAD
                read(0,0,0,41) BAD
                torn() 2
                """);
        Run.check(39, "nor did one that add() refused", SHEETS + """
                lay(0,0,19)
                read(0,1,0,1) 0
                torn() 3
                read(0,0,0,1) -20
                torn() 3
                """);
        Run.check(39, "a text, an image, a new sheet say nothing of it", SHEETS + """
                keep(0)
                read(3,0,0,1) 0
                back(0)
                tell 'on 1;'
                sheet(3,0,1)
                torn() 1
                """);
    }

    private static void count() {
        Run.bounds(40, "", "count(#)", 0, 0, 5, 0);
        Run.bounds(40, "tell 'plain 9;'\nalter(0,2,9)\nsee(0,0,200000)", "count(#)", 0, 1, 5, 9);
        Run.check(40, "cells of sheet 0 alone; none: nothing", """
                count(3) NONE
                sheet(1,0,5)
                sheet(3,0,5)
                count(3) NONE
                sheet(0,0,0)
                count(3) 0
                sheet(0,2,40)
                count(3) 40
                """);
        Run.check(40, "a sheet that is refused is none", """
                sheet(0,0,-1) -14
                count(3) NONE
                sheet(0,0,41) BAD
                count(3) NONE
                """);
    }

    private static void countAtItsEnds() {
        Run.check(40, "most of each", """
                4 times hang(3,9)
                alter(0,2,9)
                alter(1,2,9)
                alter(2,2,9)
                alter(3,2,9)
                6 times see(0,3,200000)
                keep(0)
                keep(1)
                160 times feed(32)
                count(0) 6
                count(1) 2
                count(2) 160
                count(4) 36
                count(5) 36
                """);
        Run.check(40, "what is cut off doesn't count", """
                4 times hang(3,9)
                alter(3,2,9)
                cut(3)
                count(4) 27
                count(5) 0
                cut(0)
                count(4) 0
                count(5) 0
                """);
        Run.check(40, "images: one, whichever", """
                keep(1)
                count(1) 1
                keep(1)
                count(1) 1
                keep(0)
                count(1) 2
                """);
    }

    private static void constants() {
        Checks.due("BAD", SlackArms.BAD, -1);
        Checks.due("STATE", SlackArms.STATE, -2);
        Checks.due("FULL", SlackArms.FULL, -3);
        Checks.due("NONE", SlackArms.NONE, -4);
    }
}
