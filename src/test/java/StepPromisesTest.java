/** Promises 16 to 20: steps. */
public final class StepPromisesTest {
    public static void main(String[] args) {
        steps();
        stepsWithoutStrokes();
        stepsFull();
        runs();
        ahead();
        when();
        again();
        changeNothing();
        Checks.finish();
    }

    private static void steps() {
        SlackArms x = Checks.told("plain 2;on 5;back 4;");
        Checks.due("16: steps(0)", x.steps(0), 0);
        Checks.due("16: nothing happened", x.rule(2), 0);
        // The arm is at 3, 3, 4, 4, 5.
        Checks.due("16: steps(5)", x.steps(5), 5);
        Checks.due("16: step", x.rule(2), 5);
        Checks.due("16: the hand", x.rule(3), 200007);
        Checks.due("16: the arm", x.arm(0, 2), 200005);
        Checks.due("16: counted anew", x.steps(1), 0);
        Checks.due("16: steps(-1)", x.steps(-1), -1);
        Checks.due("16: steps(101)", x.steps(101), -1);
        Checks.due("16: steps(MIN)", x.steps(Integer.MIN_VALUE), -1);
        Checks.due("16: steps(MAX)", x.steps(Integer.MAX_VALUE), -1);
        Checks.due("16: still", x.rule(2), 6);
        SlackArms y = Checks.told("plain 0;plain 1;on 4;back 4;");
        // 4 and 3 on; 4 and 2 back: without signs.
        Checks.due("16: of all arms, without signs", y.steps(2), 13);
        Checks.due("16: steps(100)", y.steps(100), 400 + 200);
    }

    private static void stepsWithoutStrokes() {
        SlackArms x = Checks.told("plain 4;");
        x.pull(12);
        x.alter(0, 1, 0);
        Checks.due("16: no strokes", x.steps(3), 0);
        Checks.due("16: no arm moves", x.arm(0, 2), 200000);
        Checks.due("16: the hand stays", x.rule(3), 200003);
        Checks.due("16: but step is more", x.rule(2), 3);
        Checks.due("16: a stroke of nothing", x.add(9), 1);
        Checks.due("16: lets an arm move that is pulled", x.steps(1), 3);
    }

    private static void stepsFull() {
        SlackArms x = Checks.told("plain 0;on 1;");
        for (int i = 0; i < 99; i++) {
            Checks.due("16: steps(100)", x.steps(100), 100);
        }
        Checks.due("16: to 10000", x.steps(100), SlackArms.FULL);
        Checks.due("16: nothing happened", x.rule(2), 9900);
        Checks.due("16: BAD ahead of FULL", x.steps(101), SlackArms.BAD);
        Checks.due("16: to 9999", x.steps(99), 99);
        Checks.due("16: steps(0) there", x.steps(0), 0);
        Checks.due("16: one more", x.steps(1), SlackArms.FULL);
        Checks.due("16: step", x.rule(2), 9999);
        Checks.due("17: by steps there is no such end", x.runs(200, 0), 200);
    }

    private static void runs() {
        SlackArms x = Checks.told("plain 2;plain 1;on 5;back 4;on 0;");
        // The hand 5, 1, 1, 6; arm 0 3, 3, 3, 4; arm 1 2, 2, 2, 3.
        int[][] due = {
            {0, 200000, 0, 0, 0}, {5, 200005, 3, 3, 0}, {5, 200001, 1, 3, 0}, {5, 200001, 1, 3, 0}, {7, 200006, 3, 3, 0}
        };
        for (int n = 0; n < due.length; n++) {
            for (int what = 0; what <= 4; what++) {
                Checks.due("17: runs(" + n + ", " + what + ")", x.runs(n, what), due[n][what]);
            }
        }
        Checks.due("17: runs(201, 0)", x.runs(201, 0), -1);
        Checks.due("17: runs(-1, 0)", x.runs(-1, 0), -1);
        Checks.due("17: runs(1, 5)", x.runs(1, 5), -1);
        Checks.due("17: runs(1, -1)", x.runs(1, -1), -1);
        SlackArms y = Checks.told("plain 0;plain 0;on 3;back 3;");
        Checks.due("17: turns of both, beyond 9 too", y.runs(20, 4), 38);
        Checks.due("17: up to 200", y.runs(200, 4), 398);
        y.steps(30);
        Checks.due("17: turns from now on alone", y.runs(1, 4), 2);
        Checks.due("17: moves from now on alone", y.runs(1, 0), 6);
        SlackArms z = Checks.told("plain 9;on 4;back 5;");
        z.pull(18);
        Checks.due("17: the greatest is now", z.runs(2, 3), 9);
        z.alter(0, 1, 3);
        Checks.due("17: though less behind any", z.runs(1, 3), 9);
        Checks.due("17: error then", z.runs(1, 2), 3);
        SlackArms none = new SlackArms();
        Checks.due("17: no arms", none.runs(200, 3), 0);
        Checks.due("17: no strokes", none.runs(200, 1), 200000);
    }

    private static void ahead() {
        SlackArms x = Checks.told("plain 2;lag 0;back 5;on 4;");
        int[] first = {0, -3, -3, -4};
        int[] second = {0, -2, -2, -3};
        for (int n = 0; n <= 3; n++) {
            Checks.due("18: ahead(0, " + n + ")", x.ahead(0, n), 200000 + first[n]);
            Checks.due("18: ahead(1, " + n + ")", x.ahead(1, n), 200000 + second[n]);
        }
        Checks.due("18: ahead(0, 200)", x.ahead(0, 200), 200000 - 3 - 99);
        Checks.due("18: ahead(0, 201)", x.ahead(0, 201), -1);
        Checks.due("18: ahead(0, -1)", x.ahead(0, -1), -1);
        Checks.due("18: ahead(2, 0)", x.ahead(2, 0), -1);
        Checks.due("18: ahead(-1, 0)", x.ahead(-1, 0), -1);
    }

    private static void when() {
        SlackArms x = Checks.told("plain 2;on 5;back 4;");
        // The arm is at 0, 3, 3, 4, 4, 5.
        int[] due = {0, 1, 1, 1, 3, 5};
        for (int place = 0; place < due.length; place++) {
            Checks.due("19: when(0, " + place + ")", x.when(0, 200000 + place), due[place]);
        }
        Checks.due("19: behind 199", x.when(0, 200102), 199);
        Checks.due("19: never back", x.when(0, 199999), SlackArms.NONE);
        Checks.due("19: not within 200", x.when(0, 200103), SlackArms.NONE);
        Checks.due("19: the least", x.when(0, 100000), SlackArms.NONE);
        Checks.due("19: the most", x.when(0, 300000), SlackArms.NONE);
        Checks.due("19: below the least", x.when(0, 99999), -1);
        Checks.due("19: above the most", x.when(0, 300001), -1);
        Checks.due("19: no such arm", x.when(1, 200000), -1);
        Checks.due("19: no such arm", x.when(-1, 200000), -1);
        SlackArms y = Checks.told("plain 2;back 5;");
        Checks.due("19: back", y.when(0, 199997), 1);
        Checks.due("19: beyond it, back", y.when(0, 199996), 2);
        Checks.due("19: behind 200", y.when(0, 200000 - 998), 200);
        Checks.due("19: one more", y.when(0, 200000 - 999), SlackArms.NONE);
        y.steps(3);
        Checks.due("19: at it now", y.when(0, 199987), 0);
        Checks.due("19: it is beyond it, but that is behind it", y.when(0, 199990), SlackArms.NONE);
    }

    private static void again() {
        SlackArms x = Checks.told("plain 2;on 5;");
        Checks.due("20: a way is never none again", x.again(), SlackArms.NONE);
        x.steps(1);
        Checks.due("20: as far from the hand, elsewhere", x.again(), 1);
        x.add(14);
        Checks.due("20: the turn of the same stroke", x.again(), 2);
        SlackArms y = Checks.told("plain 2;on 5;back 5;");
        y.steps(2);
        Checks.due("20: turns are more each time", y.again(), SlackArms.NONE);
        y.steps(18);
        Checks.due("20: until they are 9", y.again(), 2);
        SlackArms none = new SlackArms();
        Checks.due("20: nothing there", none.again(), 1);
        none.hang(1, 1);
        none.pull(18);
        Checks.due("20: no strokes", none.again(), 1);
        SlackArms hand = Checks.told("on 1;on 1;on 1;back 9;");
        Checks.due("20: no arms", hand.again(), 4);
        SlackArms z = Checks.told("plain 3;on 1;back 1;on 2;back 2;on 3;back 3;");
        Checks.due("20: within its play", z.again(), 6);
        SlackArms far = Checks.told("plain 9;on 1;back 1;");
        far.pull(11);
        Checks.due("20: off the hand, with its sign", far.again(), 2);
        SlackArms sign = Checks.told("plain 9;on 6;back 6;");
        sign.pull(6);
        Checks.due("20: 3 ahead is not 3 behind", sign.again(), 2);
        SlackArms late = Checks.told("worn 0;" + "on 0;".repeat(15) + "on 1;");
        Checks.due("20: sixteen strokes: it sticks, then moves", late.again(), SlackArms.NONE);
        // 13 strokes: by 1, which sticks, each round; a round comes again from the second on.
        SlackArms round = Checks.told("stick 0;on 1;" + "on 0;".repeat(12));
        round.steps(26);
        Checks.due("20: two rounds", round.again(), 26);
    }

    private static void changeNothing() {
        SlackArms x = Checks.told("worn 1;lag 2;on 7;back 6;");
        x.steps(3);
        String before = Checks.state(x);
        for (int what = 0; what <= 4; what++) {
            x.runs(50, what);
        }
        x.ahead(0, 50);
        x.when(1, 200050);
        x.again();
        Checks.holds("by steps nothing changes", before.equals(Checks.state(x)));
    }
}
