/** Promises 21 to 27: what is best, strokes that are missed. */
public final class BestPromisesTest {
    public static void main(String[] args) {
        slack();
        kind();
        swap();
        miss();
        lead();
        luck();
        mean();
        changeNothing();
        Checks.finish();
    }

    private static void both(String what, long first, long wantFirst, long second, long wantSecond) {
        Checks.due(what + ", what 0", first, wantFirst);
        Checks.due(what + ", what 1", second, wantSecond);
    }

    private static void slack() {
        SlackArms x = Checks.told("plain 5;on 3;");
        both("21: the least error", x.slack(0, 1, 0), 0, x.slack(0, 1, 1), 0);
        // By slack: 0 ends at 1, 1 at 1, from 2 on it never moves.
        SlackArms y = Checks.told("lag 0;on 3;back 3;");
        both("21: of several the least", y.slack(0, 2, 0), 2, y.slack(0, 2, 1), 0);
        both("21: behind none", y.slack(0, 0, 0), 0, y.slack(0, 0, 1), 0);
        SlackArms z = Checks.told("plain 0;plain 3;on 9;");
        both("21: through another arm", z.slack(0, 1, 0), 0, z.slack(0, 1, 1), 3);
        both("21: of the last arm", z.slack(1, 200, 0), 0, z.slack(1, 200, 1), 0);
        // The hand is back where the arm stayed, by a slack of 9 alone.
        SlackArms nine = Checks.told("lag 0;on 9;on 1;back 9;back 1;");
        both("21: the most slack", nine.slack(0, 4, 0), 9, nine.slack(0, 4, 1), 0);
        Checks.due("21: slack(2, 0, 0)", z.slack(2, 0, 0), -1);
        Checks.due("21: slack(-1, 0, 0)", z.slack(-1, 0, 0), -1);
        Checks.due("21: slack(0, 201, 0)", z.slack(0, 201, 0), -1);
        Checks.due("21: slack(0, -1, 0)", z.slack(0, -1, 0), -1);
        Checks.due("21: slack(0, 0, 2)", z.slack(0, 0, 2), -1);
        Checks.due("21: slack(0, 0, -1)", z.slack(0, 0, -1), -1);
    }

    private static void kind() {
        // A plain one is drawn 1 on and stays there; a lag one and a stick one never move.
        SlackArms x = Checks.told("plain 2;on 3;back 3;");
        both("22: of several the first", x.kind(0, 2, 0), 1, x.kind(0, 2, 1), 0);
        both("22: behind none", x.kind(0, 0, 0), 0, x.kind(0, 0, 1), 0);
        both("22: behind one", x.kind(0, 1, 0), 0, x.kind(0, 1, 1), 2);
        SlackArms worn = Checks.told("worn 3;on 5;back 1;");
        worn.alter(0, 2, 9);
        both("22: turns stay: plain wears not", worn.kind(0, 1, 0), 0, worn.kind(0, 1, 1), 3);
        SlackArms plain = Checks.told("lag 0;on 4;back 1;");
        both("22: plain follows", plain.kind(0, 2, 0), 0, plain.kind(0, 2, 1), 0);
        Checks.due("22: kind(1, 0, 0)", x.kind(1, 0, 0), -1);
        Checks.due("22: kind(-1, 0, 0)", x.kind(-1, 0, 0), -1);
        Checks.due("22: kind(0, 201, 0)", x.kind(0, 201, 0), -1);
        Checks.due("22: kind(0, -1, 0)", x.kind(0, -1, 0), -1);
        Checks.due("22: kind(0, 0, 2)", x.kind(0, 0, 2), -1);
        Checks.due("22: kind(0, 0, -1)", x.kind(0, 0, -1), -1);
        // A worn one with 4 turns back has play enough not to be drawn on at all.
        SlackArms three = Checks.told("plain 0;on 4;back 4;on 0;");
        three.alter(0, 2, 4);
        three.alter(0, 1, 1);
        both("22: the last kind", three.kind(0, 2, 0), 3, three.kind(0, 2, 1), 0);
    }

    private static void swap() {
        // As it is: at 1, the stick one is pulled by 1 and stays. Changed: at 3, at 1.
        SlackArms x = Checks.told("plain 2;stick 0;on 3;");
        both("23: two", x.swap(1, 0), 1, x.swap(1, 1), 2);
        both("23: behind none", x.swap(0, 0), SlackArms.NONE, x.swap(0, 1), SlackArms.NONE);
        SlackArms last = Checks.told("stick 1;plain 2;stick 0;on 4;");
        both("23: the last two", last.swap(1, 0), 12, last.swap(1, 1), 3);
        SlackArms several = Checks.told("plain 0;plain 2;stick 0;on 3;");
        both("23: 02 and 12 are as good", several.swap(1, 0), 2, several.swap(1, 1), 2);
        SlackArms turns = Checks.told("plain 2;worn 0;on 3;");
        turns.alter(0, 2, 9);
        both("23: turns change too", turns.swap(1, 0), 1, turns.swap(1, 1), 2);
        SlackArms same = Checks.told("plain 2;plain 5;on 9;");
        Checks.due("23: no less", same.swap(1, 0), SlackArms.NONE);
        Checks.due("23: one arm", Checks.told("plain 2;on 3;").swap(1, 0), SlackArms.NONE);
        Checks.due("23: no arms", Checks.told("on 3;").swap(1, 1), SlackArms.NONE);
        // Where they are and their ways stay with the places in the row.
        SlackArms stay = Checks.told("plain 9;plain 0;on 1;");
        stay.pull(18);
        stay.pull(18);
        Checks.due("23: places stay", stay.swap(1, 0), SlackArms.NONE);
        Checks.due("23: swap(201, 0)", x.swap(201, 0), -1);
        Checks.due("23: swap(-1, 0)", x.swap(-1, 0), -1);
        Checks.due("23: swap(0, 2)", x.swap(0, 2), -1);
        Checks.due("23: swap(0, -1)", x.swap(0, -1), -1);
    }

    private static void miss() {
        SlackArms x = Checks.told("plain 2;on 0;on 5;back 1;on 3;");
        // Without the last one the hand is at 4, the arm at 3.
        both("24: the last one", x.miss(4, 0), 3, x.miss(4, 1), 1);
        both("24: behind two", x.miss(2, 0), 1, x.miss(2, 1), 0);
        both("24: behind none", x.miss(0, 0), SlackArms.NONE, x.miss(0, 1), SlackArms.NONE);
        SlackArms several = Checks.told("plain 9;on 2;on 2;");
        both("24: of several the first", several.miss(2, 0), 0, several.miss(2, 1), 2);
        Checks.due("24: none is less", Checks.told("plain 0;on 5;").miss(1, 0), SlackArms.NONE);
        Checks.due("24: no strokes", Checks.told("plain 0;").miss(9, 0), SlackArms.NONE);
        Checks.due("24: no arms", Checks.told("on 5;").miss(9, 1), SlackArms.NONE);
        // A stroke that is 0 lets arms move: the arm is drawn to the hand in that step.
        SlackArms drawn = Checks.told("plain 5;back 9;");
        drawn.pull(14);
        drawn.alter(0, 1, 1);
        both("24: arms still move", drawn.miss(1, 0), SlackArms.NONE, drawn.runs(1, 2), 1);
        SlackArms farther = Checks.told("plain 5;back 3;");
        farther.pull(14);
        farther.alter(0, 1, 1);
        farther.alter(0, 0, 1);
        // As it is: the hand at 2, pulled by 1, a lag one stays: 2 off. With 0: pulled by 4, moves 3: 2 off.
        both("24: no less", farther.miss(1, 0), SlackArms.NONE, farther.runs(1, 2), 2);
        SlackArms most = Checks.told("plain 2;" + "on 0;".repeat(15) + "on 5;");
        both("24: the last of sixteen", most.miss(16, 0), 15, most.miss(16, 1), 0);
        Checks.due("24: miss(201, 0)", x.miss(201, 0), -1);
        Checks.due("24: miss(-1, 0)", x.miss(-1, 0), -1);
        Checks.due("24: miss(0, 2)", x.miss(0, 2), -1);
        Checks.due("24: miss(0, -1)", x.miss(0, -1), -1);
    }

    private static void lead() {
        SlackArms x = Checks.told("plain 2;on 2;back 2;");
        both("25: 1 back", x.lead(2, 0), 8, x.lead(2, 1), 1);
        both("25: of several the least", x.lead(1, 0), 0, x.lead(1, 1), 0);
        both("25: behind none", x.lead(0, 0), 0, x.lead(0, 1), 0);
        SlackArms still = Checks.told("plain 5;");
        both("25: no strokes", still.lead(3, 0), 9, still.lead(3, 1), 0);
        SlackArms on = Checks.told("plain 9;back 9;back 9;on 9;");
        both("25: 9 on, 9 to 0 from the arm", on.lead(1, 0), 18, on.lead(1, 1), 0);
        both("25: no arms", new SlackArms().lead(200, 0), 0, new SlackArms().lead(200, 1), 0);
        // Now it is 9 off, but that doesn't count.
        SlackArms now = Checks.told("plain 9;back 9;on 0;");
        now.pull(18);
        both("25: not now", now.lead(1, 0), 9, now.lead(1, 1), 0);
        // 18 on would bring the hand back to the arm; 9 on is the most.
        SlackArms far = Checks.told("plain 9;back 9;");
        far.pull(0);
        both("25: 9 at most", far.lead(1, 0), 0, far.lead(1, 1), 9);
        Checks.due("25: lead(201, 0)", x.lead(201, 0), -1);
        Checks.due("25: lead(-1, 0)", x.lead(-1, 0), -1);
        Checks.due("25: lead(0, 2)", x.lead(0, 2), -1);
        Checks.due("25: lead(0, -1)", x.lead(0, -1), -1);
    }

    private static void luck() {
        SlackArms x = Checks.told("plain 2;on 5;");
        both("26: missed", x.luck(3, 0, 1, 0), 3, x.luck(3, 0, 1, 1), 10);
        both("26: less than 2 is 0", x.luck(3, 1, 1, 0), 3, x.luck(3, 1, 1, 1), 10);
        both("26: 2 or less is sure", x.luck(3, 2, 1, 0), 1, x.luck(3, 2, 1, 1), 1);
        both("26: both missed", x.luck(3, 0, 2, 0), 9, x.luck(3, 0, 2, 1), 100);
        both("26: in lowest terms", x.luck(5, 0, 2, 0), 1, x.luck(5, 0, 2, 1), 4);
        both("26: eight missed", x.luck(1, 0, 8, 0), 1, x.luck(1, 0, 8, 1), 100000000);
        both("26: none missed ever", x.luck(0, 1, 8, 0), 0, x.luck(0, 1, 8, 1), 1);
        both("26: all missed always", x.luck(10, 0, 8, 0), 1, x.luck(10, 0, 8, 1), 1);
        both("26: no steps", x.luck(5, 0, 0, 0), 1, x.luck(5, 0, 0, 1), 1);
        // Both: 1 off; the first alone: 2; the second alone: 1; none: 0.
        SlackArms y = Checks.told("plain 2;on 5;back 1;");
        both("26: a stroke that is missed has had its turn", y.luck(5, 1, 2, 0), 3, y.luck(5, 1, 2, 1), 4);
        both("26: just 0", y.luck(5, 0, 2, 0), 1, y.luck(5, 0, 2, 1), 4);
        both("26: odds of the first", y.luck(2, 1, 2, 0), 21, y.luck(2, 1, 2, 1), 25);
        SlackArms z = Checks.told("plain 2;on 5;");
        z.steps(1);
        z.alter(0, 1, 0);
        both("26: no arm moves in a step that is missed", z.luck(10, 1, 1, 0), 0, z.luck(10, 2, 1, 0), 1);
        SlackArms none = Checks.told("plain 2;");
        none.pull(18);
        both("26: no strokes", none.luck(5, 1, 8, 0), 0, none.luck(5, 2, 8, 0), 1);
        Checks.due("26: no arms", Checks.told("on 9;").luck(4, 0, 8, 0), 1);
        int[][] bad = {
            {-1, 0, 0, 0}, {11, 0, 0, 0}, {0, -1, 0, 0}, {0, 100, 0, 0}, {0, 0, -1, 0}, {0, 0, 9, 0}, {0, 0, 0, -1},
            {0, 0, 0, 2}
        };
        for (int[] b : bad) {
            Checks.due("26: wrong numbers", x.luck(b[0], b[1], b[2], b[3]), -1);
        }
        Checks.due("26: e up to 99", x.luck(0, 99, 8, 0), 1);
    }

    private static void mean() {
        SlackArms x = Checks.told("plain 2;on 5;");
        both("27: 2 by 7 out of ten", x.mean(3, 1, 0), 7, x.mean(3, 1, 1), 5);
        both("27: 2 but for 9 in 100", x.mean(3, 2, 0), 91, x.mean(3, 2, 1), 50);
        both("27: 2 by 1 out of ten", x.mean(9, 1, 0), 1, x.mean(9, 1, 1), 5);
        both("27: all missed", x.mean(10, 8, 0), 0, x.mean(10, 8, 1), 1);
        both("27: none missed", x.mean(0, 8, 0), 2, x.mean(0, 8, 1), 1);
        both("27: no steps", x.mean(5, 0, 0), 0, x.mean(5, 0, 1), 1);
        SlackArms y = Checks.told("plain 2;on 5;back 1;");
        both("27: 1, 2, 1, 0", y.mean(5, 2, 0), 1, y.mean(5, 2, 1), 1);
        // 64 by 1, 16 by 2 (the second missed), 16 by 1, 4 by 0.
        both("27: by odds of 2", y.mean(2, 2, 0), 28, y.mean(2, 2, 1), 25);
        int[][] bad = {{-1, 0, 0}, {11, 0, 0}, {0, -1, 0}, {0, 9, 0}, {0, 0, -1}, {0, 0, 2}};
        for (int[] b : bad) {
            Checks.due("27: wrong numbers", x.mean(b[0], b[1], b[2]), -1);
        }
        Checks.due("27: no arms", Checks.told("on 9;").mean(4, 8, 1), 1);
    }

    private static void changeNothing() {
        SlackArms x = Checks.told("worn 1;lag 2;stick 0;on 7;back 6;on 2;");
        x.steps(4);
        String before = Checks.state(x);
        x.slack(0, 9, 0);
        x.kind(1, 9, 0);
        x.swap(9, 0);
        x.miss(9, 0);
        x.lead(9, 0);
        x.luck(3, 2, 5, 0);
        x.mean(3, 5, 0);
        Checks.holds("what is best changes nothing", before.equals(Checks.state(x)));
    }
}
