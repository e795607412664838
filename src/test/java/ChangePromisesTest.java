/** Promises 9 to 15: what is changed; and how arms move, by kind. */
public final class ChangePromisesTest {
    public static void main(String[] args) {
        alter();
        hang();
        cut();
        set();
        add();
        drop();
        pull();
        plainMoves();
        lagMoves();
        stickMoves();
        wornMoves();
        ledThroughOthers();
        Checks.finish();
    }

    private static void alter() {
        SlackArms x = Checks.told("plain 2;worn 5;on 4;");
        Checks.due("9: kind", x.alter(0, 0, 3), 0);
        Checks.due("9: kind again", x.alter(0, 0, 1), 3);
        Checks.due("9: slack", x.alter(1, 1, 9), 5);
        Checks.due("9: slack again", x.alter(1, 1, 0), 9);
        Checks.due("9: turns", x.alter(1, 2, 9), 0);
        Checks.due("9: turns again", x.alter(1, 2, 4), 9);
        Checks.due("9: kind is so", x.arm(0, 0), 1);
        Checks.due("9: slack is so", x.arm(1, 1), 0);
        Checks.due("9: turns are so", x.arm(1, 3), 4);
        Checks.due("9: play of a worn one", x.arm(1, 5), 4);
        Checks.due("9: all else stays", x.arm(1, 0), 3);
        int[][] bad = {
            {2, 0, 0}, {-1, 0, 0}, {0, 3, 0}, {0, -1, 0}, {0, 0, 4}, {0, 0, -1}, {0, 1, 10}, {0, 1, -1},
            {0, 2, 10}, {0, 2, -1}, {Integer.MIN_VALUE, 0, 0}, {Integer.MAX_VALUE, 0, 0}
        };
        String before = Checks.state(x);
        for (int[] b : bad) {
            Checks.due("9: alter(" + b[0] + ", " + b[1] + ", " + b[2] + ")", x.alter(b[0], b[1], b[2]), -1);
        }
        Checks.holds("9: what is refused changes nothing", before.equals(Checks.state(x)));
    }

    private static void hang() {
        SlackArms x = new SlackArms();
        x.pull(12);
        Checks.due("10: the first", x.hang(2, 9), 1);
        Checks.due("10: it is where the hand is", x.arm(0, 2), 200003);
        Checks.due("10: its kind", x.arm(0, 0), 2);
        Checks.due("10: its slack", x.arm(0, 1), 9);
        x.pull(18);
        Checks.due("10: the second", x.hang(3, 0), 2);
        Checks.due("10: it is where the first one is", x.arm(1, 2), 200003);
        Checks.due("10: no turns", x.arm(1, 3), 0);
        Checks.due("10: no way", x.arm(1, 4), 1);
        Checks.due("10: hang(4, 0)", x.hang(4, 0), -1);
        Checks.due("10: hang(-1, 0)", x.hang(-1, 0), -1);
        Checks.due("10: hang(0, 10)", x.hang(0, 10), -1);
        Checks.due("10: hang(0, -1)", x.hang(0, -1), -1);
        Checks.due("10: the third", x.hang(0, 0), 3);
        Checks.due("10: the fourth", x.hang(1, 1), 4);
        Checks.due("10: the fifth", x.hang(0, 0), SlackArms.FULL);
        Checks.due("10: BAD ahead of FULL", x.hang(0, 10), SlackArms.BAD);
        Checks.due("10: four", x.rule(0), 4);
        SlackArms y = Checks.told("worn 0;worn 0;on 5;back 5;");
        y.steps(4);
        y.cut(1);
        y.hang(3, 1);
        Checks.due("10: new turns behind a cut", y.arm(1, 3), 0);
        Checks.due("10: a new way behind a cut", y.arm(1, 4), 1);
    }

    private static void cut() {
        SlackArms x = Checks.told("plain 1;lag 2;stick 3;worn 4;");
        Checks.due("11: cut(5)", x.cut(5), -1);
        Checks.due("11: cut(-1)", x.cut(-1), -1);
        Checks.due("11: cut(4)", x.cut(4), 4);
        Checks.due("11: cut(2)", x.cut(2), 4);
        Checks.due("11: the first two are left", x.arm(1, 1), 2);
        Checks.due("11: no third", x.arm(2, 0), -1);
        Checks.due("11: cut(3)", x.cut(3), -1);
        Checks.due("11: cut(0)", x.cut(0), 2);
        Checks.due("11: cut(0) again", x.cut(0), 0);
        Checks.due("11: none", x.rule(0), 0);
    }

    private static void set() {
        SlackArms x = Checks.told("on 9;back 9;");
        Checks.due("12: set(0, 0)", x.set(0, 0), 18);
        Checks.due("12: set(1, 18)", x.set(1, 18), 0);
        Checks.due("12: stroke(0)", x.stroke(0), 1);
        Checks.due("12: stroke(1)", x.stroke(1), 19);
        Checks.due("12: set(0, 9)", x.set(0, 9), 0);
        Checks.due("12: set(2, 0)", x.set(2, 0), -1);
        Checks.due("12: set(-1, 0)", x.set(-1, 0), -1);
        Checks.due("12: set(0, 19)", x.set(0, 19), -1);
        Checks.due("12: set(0, -1)", x.set(0, -1), -1);
        Checks.due("12: nothing changed", x.stroke(0), 10);
    }

    private static void add() {
        SlackArms x = new SlackArms();
        Checks.due("13: add(-1)", x.add(-1), -1);
        Checks.due("13: add(19)", x.add(19), -1);
        for (int i = 0; i < 16; i++) {
            Checks.due("13: add", x.add(i + 2), i + 1);
            Checks.due("13: what came", x.stroke(i), i + 3);
        }
        Checks.due("13: the 17th", x.add(0), SlackArms.FULL);
        Checks.due("13: the 17th, which is BAD", x.add(19), SlackArms.BAD);
        Checks.due("13: sixteen", x.rule(1), 16);
    }

    private static void drop() {
        SlackArms x = Checks.told("on 1;on 2;on 3;");
        Checks.due("14: drop(4)", x.drop(4), -1);
        Checks.due("14: drop(-1)", x.drop(-1), -1);
        Checks.due("14: drop(3)", x.drop(3), 3);
        Checks.due("14: drop(1)", x.drop(1), 3);
        Checks.due("14: the first is left", x.stroke(0), 11);
        Checks.due("14: alone", x.stroke(1), -1);
        Checks.due("14: drop(0)", x.drop(0), 1);
        Checks.due("14: none", x.rule(1), 0);
    }

    private static void pull() {
        SlackArms x = Checks.told("plain 2;on 1;");
        Checks.due("15: pull(19)", x.pull(19), -1);
        Checks.due("15: pull(-1)", x.pull(-1), -1);
        Checks.due("15: 9 on", x.pull(18), 2);
        Checks.due("15: the hand", x.rule(3), 200009);
        Checks.due("15: the arm", x.arm(0, 2), 200007);
        Checks.due("15: nothing on", x.pull(9), 2);
        Checks.due("15: 1 back", x.pull(8), 1);
        Checks.due("15: 9 back", x.pull(0), 2);
        Checks.due("15: the arm", x.arm(0, 2), 200001);
        Checks.due("15: a turn", x.arm(0, 3), 1);
        Checks.due("15: no step", x.rule(2), 0);
        x.alter(0, 1, 0);
        Checks.due("15: by nothing, an arm that is pulled moves", x.pull(9), 0);
        SlackArms y = new SlackArms();
        Checks.due("15: no arms, no error", y.pull(0), 0);
        Checks.due("15: but the hand moves", y.rule(3), 199991);
    }

    private static void places(String what, SlackArms x, int a, int... due) {
        for (int i = 0; i < due.length; i++) {
            x.steps(1);
            Checks.due(what + ", behind step " + (i + 1), x.arm(a, 2) - 200000, due[i]);
        }
    }

    private static void plainMoves() {
        places("plain, on", Checks.told("plain 2;on 2;on 1;on 3;"), 0, 0, 1, 4);
        places("plain, back", Checks.told("plain 2;back 2;back 1;back 3;"), 0, 0, -1, -4);
        places("plain, to and fro", Checks.told("plain 2;on 5;back 5;"), 0, 3, 2, 3, 2);
        places("plain without play", Checks.told("plain 0;on 1;back 2;"), 0, 1, -1, 0);
    }

    private static void lagMoves() {
        places("lag, on", Checks.told("lag 1;on 1;on 1;on 1;on 3;"), 0, 0, 0, 1, 4);
        places("lag, back", Checks.told("lag 1;back 2;back 1;back 3;"), 0, 0, -1, -4);
        places("lag, to and fro", Checks.told("lag 0;on 3;back 3;"), 0, 2, 1, 2, 1);
        SlackArms x = Checks.told("lag 0;on 1;");
        x.steps(1);
        Checks.due("lag, pulled by 1: no way", x.arm(0, 4), 1);
    }

    private static void stickMoves() {
        places("stick, on", Checks.told("stick 1;on 2;on 1;on 1;"), 0, 0, 2, 2, 5);
        places("stick, back", Checks.told("stick 1;back 2;back 1;back 1;"), 0, 0, -2, -2, -5);
        SlackArms x = Checks.told("stick 0;on 3;back 1;");
        x.steps(2);
        Checks.due("stick, pulled back by 1: its way stays", x.arm(0, 4), 2);
        Checks.due("stick, pulled back by 1: no turn", x.arm(0, 3), 0);
    }

    private static void wornMoves() {
        // Each turn adds to its play: in the end the hand moves within it.
        SlackArms x = Checks.told("worn 0;on 4;back 4;");
        places("worn, to and fro", x, 0, 4, 0, 3, 3, 3, 3);
        Checks.due("worn: turns", x.arm(0, 3), 2);
        Checks.due("worn: play", x.arm(0, 5), 2);
        SlackArms y = Checks.told("plain 0;on 1;back 1;");
        y.steps(10);
        Checks.due("turns behind 10", y.arm(0, 3), 9);
        y.steps(10);
        Checks.due("turns are 9 at most", y.arm(0, 3), 9);
        SlackArms z = Checks.told("plain 0;on 1;on 1;back 1;");
        z.steps(2);
        Checks.due("the same way is no turn", z.arm(0, 3), 0);
        z.steps(1);
        Checks.due("the other way is one", z.arm(0, 3), 1);
        Checks.due("its way is back", z.arm(0, 4), 0);
    }

    private static void ledThroughOthers() {
        SlackArms x = Checks.told("plain 1;lag 1;stick 1;worn 1;on 9;back 9;");
        // On: 8; pulled 7, 6; pulled 5; pulled 4 less 0: at 4.
        x.steps(1);
        int[] on = {8, 6, 5, 4};
        for (int a = 0; a < 4; a++) {
            Checks.due("led on, arm " + a, x.arm(a, 2) - 200000, on[a]);
        }
        // Back to 0: at 1; pulled 4, 3 back to 3; pulled by 1, sticks at 5; nothing.
        x.steps(1);
        int[] back = {1, 3, 5, 4};
        for (int a = 0; a < 4; a++) {
            Checks.due("led back, arm " + a, x.arm(a, 2) - 200000, back[a]);
        }
        Checks.due("error is of the last one", x.rule(4), 4);
    }
}
