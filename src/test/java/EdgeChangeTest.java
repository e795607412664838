/** Promises 9 to 15 at their edges; and how arms move just within and just beyond their play. */
public final class EdgeChangeTest {
    /** Two arms that have moved, strokes, something seen and kept: much that could be lost. */
    private static final String MUCH = """
            tell 'plain 2;worn 5;on 9;back 4;'
            steps(2)
            see(1,0,200009)
            keep(1)
            """;

    public static void main(String[] args) {
        alter();
        hang();
        hangFull();
        cut();
        set();
        add();
        drop();
        pull();
        withinPlayAndBeyond();
        lagAndStickByOne();
        turnsAndWays();
        ledByTheArmAhead();
        Checks.finish();
    }

    private static void alter() {
        Run.bounds(9, MUCH, "alter(#,1,5)", 0, 2, 1, 5);
        Run.bounds(9, MUCH, "alter(1,#,3)", 0, 3, 2, 0);
        Run.bounds(9, MUCH, "alter(1,0,#)", 0, 3, 3, 3);
        Run.bounds(9, MUCH, "alter(1,1,#)", 0, 5, 9, 5);
        Run.bounds(9, MUCH, "alter(1,2,#)", 0, 0, 9, 0);
        Run.bounds(9, "4 times hang(1,6)", "alter(#,1,0)", 0, 6, 3, 6);
        Run.check(9, "no arm", """
                alter(0,0,0) BAD
                alter(-1,1,0) BAD
                alter(0,2,0) BAD
                """);
        Run.check(9, "no such arm any more", MUCH + """
                cut(1)
                alter(1,0,0) BAD
                """);
        Run.check(9, "least and most are so then, and are told the next time", MUCH + """
                alter(1,0,0) 3
                arm(1,0) 0
                alter(1,0,3) 0
                arm(1,0) 3
                alter(1,1,0) 5
                arm(1,1) 0
                alter(1,1,9) 0
                arm(1,1) 9
                alter(1,2,9) 0
                arm(1,3) 9
                alter(1,2,0) 9
                arm(1,3) 0
                arm(0,0) 0
                arm(0,1) 2
                arm(0,3) 0
                """);
        Run.check(9, "it moves no arm by itself", """
                hang(0,9)
                pull(18) 9
                alter(0,1,0) 9
                rule(4) 9
                arm(0,2) 200000
                pull(9) 0
                """);
    }

    private static void hang() {
        Run.bounds(10, MUCH, "hang(#,4)", 0, 3, 3, 3);
        Run.bounds(10, MUCH, "hang(3,#)", 0, 3, 9, 3);
        Run.bounds(10, "", "hang(#,0)", 0, 1, 3, 1);
        Run.bounds(10, "", "hang(0,#)", 0, 1, 9, 1);
        Run.check(10, "the first is where the hand is", """
                pull(0)
                hang(3,9) 1
                arm(0,0) 3
                arm(0,1) 9
                arm(0,2) 199991
                arm(0,3) 0
                arm(0,4) 1
                rule(4) 0
                """);
        Run.check(10, "each other one is where the one ahead of it is", """
                hang(0,9) 1
                pull(14)
                hang(0,0) 2
                arm(1,2) 200000
                rule(4) 5
                pull(18)
                arm(0,2) 200005
                arm(1,2) 200005
                hang(0,0) 3
                arm(2,2) 200005
                """);
        Run.check(10, "behind a cut it is a new one", """
                hang(3,0)
                hang(3,0)
                pull(18)
                pull(0)
                arm(1,3) 1
                arm(1,4) 0
                cut(1)
                hang(2,3) 2
                arm(1,0) 2
                arm(1,1) 3
                arm(1,3) 0
                arm(1,4) 1
                """);
    }

    private static void hangFull() {
        Run.check(10, "FULL: the fifth", """
                3 times hang(0,1)
                hang(3,9) 4
                hang(3,9) FULL
                hang(0,0) FULL
                rule(0) 4
                cut(3) 4
                hang(0,0) 4
                hang(0,0) FULL
                """);
        Run.check(10, "BAD ahead of FULL", """
                4 times hang(0,1)
                hang(4,0) BAD
                hang(-1,0) BAD
                hang(0,10) BAD
                hang(0,-1) BAD
                """);
    }

    private static void cut() {
        Run.bounds(11, "", "cut(#)", 0, 0, 0, 0);
        Run.bounds(11, "hang(0,0)", "cut(#)", 0, 1, 1, 1);
        Run.bounds(11, MUCH, "cut(#)", 0, 2, 2, 2);
        Run.bounds(11, "4 times hang(3,9)", "cut(#)", 0, 4, 4, 4);
        Run.check(11, "all of them stay", MUCH + """
                cut(2) 2
                rule(0) 2
                arm(1,1) 5
                """);
        Run.check(11, "the first alone stays", MUCH + """
                cut(1) 2
                rule(0) 1
                arm(0,1) 2
                arm(1,1) BAD
                cut(2) BAD
                """);
        Run.check(11, "none stays", MUCH + """
                cut(0) 2
                rule(0) 0
                rule(4) 0
                arm(0,0) BAD
                cut(0) 0
                cut(1) BAD
                rule(1) 2
                rule(2) 2
                count(0) 1
                """);
    }

    private static void set() {
        Run.bounds(12, MUCH, "set(#,9)", 0, 18, 1, 5);
        Run.bounds(12, MUCH, "set(0,#)", 0, 18, 18, 18);
        Run.bounds(12, "add(0)", "set(#,9)", 0, 0, 0, 0);
        Run.bounds(12, "15 times add(3)\nadd(18)", "set(#,9)", 0, 3, 15, 18);
        Run.check(12, "no stroke", """
                set(0,0) BAD
                set(-1,9) BAD
                """);
        Run.check(12, "least and most are so then", MUCH + """
                set(0,0) 18
                stroke(0) 1
                set(0,18) 0
                stroke(0) 19
                set(0,9) 18
                stroke(0) 10
                stroke(1) 6
                rule(1) 2
                """);
        Run.check(12, "a stroke that was dropped is none", MUCH + """
                drop(1)
                set(1,9) BAD
                """);
    }

    private static void add() {
        Run.bounds(13, MUCH, "add(#)", 0, 3, 18, 3);
        Run.bounds(13, "", "add(#)", 0, 1, 18, 1);
        Run.check(13, "least and most", """
                add(0) 1
                add(18) 2
                stroke(0) 1
                stroke(1) 19
                """);
        Run.check(13, "FULL: the 17th", """
                15 times add(9)
                add(0) 16
                add(0) FULL
                add(18) FULL
                rule(1) 16
                stroke(15) 1
                drop(15) 16
                add(18) 16
                stroke(15) 19
                add(9) FULL
                """);
        Run.check(13, "BAD ahead of FULL", """
                16 times add(9)
                add(-1) BAD
                add(19) BAD
                """);
    }

    private static void drop() {
        Run.bounds(14, "", "drop(#)", 0, 0, 0, 0);
        Run.bounds(14, "add(9)", "drop(#)", 0, 1, 1, 1);
        Run.bounds(14, MUCH, "drop(#)", 0, 2, 2, 2);
        Run.bounds(14, "16 times add(9)", "drop(#)", 0, 16, 16, 16);
        Run.check(14, "all of them stay", MUCH + """
                drop(2) 2
                rule(1) 2
                stroke(1) 6
                """);
        Run.check(14, "the first alone stays", MUCH + """
                drop(1) 2
                stroke(0) 19
                stroke(1) BAD
                drop(2) BAD
                """);
        Run.check(14, "none stays, step does", MUCH + """
                drop(0) 2
                rule(1) 0
                rule(2) 2
                rule(5) NONE
                drop(0) 0
                drop(1) BAD
                """);
        Run.check(14, "a stroke that comes behind a drop", MUCH + """
                drop(1) 2
                add(0) 2
                stroke(1) 1
                """);
    }

    private static void pull() {
        Run.bounds(15, "hang(0,0)", "pull(#)", 0, 0, 18, 0);
        Run.bounds(15, "hang(0,3)", "pull(#)", 0, 3, 18, 3);
        Run.bounds(15, "", "pull(#)", 0, 0, 18, 0);
        Run.check(15, "9 back at the most", """
                pull(0) 0
                rule(3) 199991
                rule(2) 0
                """);
        Run.check(15, "9 on at the most", """
                pull(18) 0
                rule(3) 200009
                rule(2) 0
                """);
        Run.check(15, "by nothing", """
                hang(0,0)
                pull(9) 0
                rule(3) 200000
                arm(0,4) 1
                """);
        Run.check(15, "an endless line: no call is refused for where the hand is", """
                hang(0,0)
                400 times pull(18)
                rule(3) 203600
                arm(0,2) 203600
                """);
    }

    /** Behind one pull the arm is at that place. */
    private static void pulled(int kind, int slack, int turns, int by, int place) {
        Run.check(15, "a pull by " + by, "hang(" + kind + "," + slack + ")\nalter(0,2," + turns + ")\npull(" + (by + 9)
                + ") " + Math.abs(by - place) + "\narm(0,2) " + (200000 + place) + "\narm(0,4) "
                + (1 + Integer.signum(place)));
    }

    private static void withinPlayAndBeyond() {
        for (int side = -1; side <= 1; side += 2) {
            pulled(0, 0, 0, side, side);
            pulled(0, 1, 0, side, 0);
            pulled(0, 1, 0, 2 * side, side);
            pulled(0, 8, 0, 8 * side, 0);
            pulled(0, 8, 0, 9 * side, side);
            pulled(0, 9, 0, 9 * side, 0);
            // Turns are no play of a plain, a lag or a stick one.
            pulled(0, 1, 9, 2 * side, side);
            pulled(1, 1, 9, 3 * side, side);
            pulled(2, 1, 9, 3 * side, 2 * side);
            // A worn one has its turns as play, too, and sticks.
            pulled(3, 1, 2, 3 * side, 0);
            pulled(3, 1, 2, 4 * side, 0);
            pulled(3, 1, 2, 5 * side, 2 * side);
        }
        Run.check(15, "most play: 18 and 19 off it stays, 20 off it comes by 2", """
                hang(3,9)
                alter(0,2,9)
                pull(18) 9
                pull(18) 18
                pull(10) 19
                arm(0,2) 200000
                pull(10) 18
                arm(0,2) 200002
                """);
        Run.check(15, "most play, back", """
                hang(3,9)
                alter(0,2,9)
                pull(0) 9
                pull(0) 18
                pull(8) 19
                arm(0,2) 200000
                pull(8) 18
                arm(0,2) 199998
                """);
    }

    private static void lagAndStickByOne() {
        for (int side = -1; side <= 1; side += 2) {
            pulled(1, 0, 0, side, 0);
            pulled(1, 0, 0, 2 * side, side);
            pulled(1, 0, 0, 9 * side, 8 * side);
            pulled(2, 0, 0, side, 0);
            pulled(2, 0, 0, 2 * side, 2 * side);
            pulled(2, 0, 0, 3 * side, 3 * side);
            pulled(3, 0, 0, side, 0);
            pulled(3, 0, 0, 2 * side, 2 * side);
            pulled(1, 9, 0, 9 * side, 0);
            pulled(2, 9, 0, 9 * side, 0);
            pulled(3, 9, 0, 9 * side, 0);
            pulled(1, 8, 0, 9 * side, 0);
            pulled(2, 8, 0, 9 * side, 0);
            pulled(3, 8, 0, 9 * side, 0);
            pulled(1, 7, 0, 9 * side, side);
            pulled(2, 7, 0, 9 * side, 2 * side);
            pulled(3, 7, 0, 9 * side, 2 * side);
        }
        for (int kind = 0; kind <= 3; kind++) {
            pulled(kind, 0, 0, 0, 0);
        }
    }

    private static void turnsAndWays() {
        Run.check(15, "the first move, on or back, is no turn", """
                hang(0,0)
                hang(0,0)
                pull(10)
                arm(0,3) 0
                arm(0,4) 2
                cut(0)
                hang(0,0)
                pull(8)
                arm(0,3) 0
                arm(0,4) 0
                """);
        Run.check(15, "the same way is no turn, the other way is one, either way", """
                hang(0,0)
                pull(10)
                pull(10)
                arm(0,3) 0
                pull(8)
                arm(0,3) 1
                pull(8)
                arm(0,3) 1
                pull(10)
                arm(0,3) 2
                """);
        Run.check(15, "that which stays keeps its way, and turns by it later", """
                hang(0,3)
                pull(18)
                pull(6)
                arm(0,4) 2
                arm(0,3) 0
                pull(5)
                arm(0,4) 0
                arm(0,3) 1
                """);
        Run.check(15, "pulled the other way by 1: a lag one and a stick one neither turn", """
                hang(1,0)
                pull(18)
                arm(0,2) 200008
                pull(7)
                arm(0,2) 200008
                arm(0,3) 0
                arm(0,4) 2
                alter(0,0,2)
                pull(9)
                arm(0,3) 0
                arm(0,4) 2
                """);
        Run.check(15, "turns are 9 at most", """
                hang(0,0)
                alter(0,2,8)
                pull(10)
                arm(0,3) 8
                pull(8)
                arm(0,3) 9
                pull(10)
                arm(0,3) 9
                arm(0,4) 2
                pull(8)
                arm(0,3) 9
                arm(0,4) 0
                """);
        Run.check(15, "a worn one's play is more from the next move on", """
                hang(3,0)
                pull(18)
                pull(7)
                arm(0,2) 200007
                arm(0,5) 1
                pull(11)
                arm(0,2) 200007
                pull(10)
                arm(0,2) 200009
                arm(0,5) 2
                """);
    }

    private static void ledByTheArmAhead() {
        Run.check(15, "an arm is led by where the one ahead is then", """
                hang(0,1)
                hang(0,1)
                pull(11) 2
                arm(0,2) 200001
                arm(1,2) 200000
                """);
        Run.check(15, "and comes in the same move", """
                hang(0,1)
                hang(0,1)
                pull(12) 2
                arm(0,2) 200002
                arm(1,2) 200001
                """);
        Run.check(15, "four of them", """
                4 times hang(0,2)
                pull(18) 8
                arm(3,2) 200001
                pull(2) 1
                arm(0,2) 200004
                arm(1,2) 200005
                arm(2,2) 200003
                arm(3,2) 200001
                """);
    }
}
