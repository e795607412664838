/** Promises 21 to 27 at their edges: what is best, strokes that are missed. */
public final class EdgeBestTest {
    /** Something seen, kept and moved, so that a question has much that it could change. */
    private static final String MUCH = "steps(3)\nsee(2,0,200001)\nkeep(0)\n";
    private static final String FIVE = "tell 'plain 2;on 5;'\n";

    public static void main(String[] args) {
        slack();
        slackAtItsEnds();
        kind();
        kindAtItsEnds();
        swap();
        swapAtItsEnds();
        miss();
        lead();
        luck();
        luckAtItsEnds();
        mean();
        nothingThere();
        changeNothing();
        Checks.finish();
    }

    private static void slack() {
        String two = "tell 'plain 2;lag 0;on 5;back 4;'\n";
        // Of the first by 0: at 5, the second at 4. Of the second by 0: the first at 3, it at 2.
        Run.bounds(21, two, "slack(#,1,1)", 0, 1, 1, 3);
        Run.bounds(21, "4 times hang(0,2)\nadd(18)", "slack(#,1,1)", 0, 6, 3, 6);
        // A lag one without slack comes one behind the hand.
        Run.bounds(21, "tell 'lag 5;on 1;'", "slack(0,#,1)", 0, 0, 200, 1);
        Run.bounds(21, "tell 'plain 0;plain 3;on 9;'", "slack(0,1,#)", 0, 0, 1, 3);
        Run.check(21, "no arm", """
                add(18)
                slack(0,0,0) BAD
                slack(0,1,1) BAD
                slack(-1,0,0) BAD
                """);
        Run.check(21, "behind none: the error now, by the least", """
                tell 'plain 9;on 1;'
                pull(18)
                slack(0,0,0) 0
                slack(0,0,1) 9
                """);
        Run.check(21, "no strokes: no arm comes", """
                hang(0,9)
                pull(18)
                slack(0,200,0) 0
                slack(0,200,1) 9
                """);
    }

    private static void slackAtItsEnds() {
        Run.check(21, "0 is the best", FIVE + """
                slack(0,1,0) 0
                slack(0,1,1) 0
                """);
        // Only by 9 the hand goes to 10 and back without drawing it on.
        Run.check(21, "9 is the best", """
                tell 'lag 0;on 9;on 1;back 9;back 1;'
                slack(0,4,0) 9
                slack(0,4,1) 0
                """);
        // By 0 and 1 it is drawn to 2 and 1 and left there, from 2 on it stays.
        Run.check(21, "of several the least", """
                tell 'lag 0;on 3;back 3;'
                slack(0,2,0) 2
                slack(0,2,1) 0
                """);
        Run.check(21, "as it is now doesn't count for more", """
                tell 'lag 9;on 3;back 3;'
                slack(0,2,0) 2
                """);
    }

    private static void kind() {
        Run.bounds(22, "tell 'plain 2;lag 0;on 5;'", "kind(#,1,1)", 0, 3, 1, 2);
        Run.bounds(22, "4 times hang(0,2)\nadd(18)", "kind(#,1,1)", 0, 8, 3, 8);
        Run.bounds(22, "tell 'lag 2;on 1;'", "kind(0,#,1)", 0, 0, 200, 2);
        Run.bounds(22, "tell 'plain 2;on 3;back 3;'", "kind(0,2,#)", 0, 1, 1, 0);
        Run.check(22, "no arm", """
                add(18)
                kind(0,0,0) BAD
                kind(0,1,1) BAD
                kind(-1,0,0) BAD
                """);
        Run.check(22, "behind none: the error now, by the first", """
                tell 'worn 9;on 1;'
                pull(18)
                kind(0,0,0) 0
                kind(0,0,1) 9
                """);
        Run.check(22, "no strokes: no arm comes", """
                hang(3,9)
                pull(18)
                alter(0,1,0)
                kind(0,200,0) 0
                kind(0,200,1) 9
                """);
    }

    private static void kindAtItsEnds() {
        Run.check(22, "plain is the best", """
                tell 'worn 0;on 1;'
                kind(0,1,0) 0
                kind(0,1,1) 0
                """);
        Run.check(22, "lag, stick and worn are as good: the first", """
                tell 'plain 2;on 3;back 3;'
                kind(0,2,0) 1
                kind(0,2,1) 0
                """);
        // The hand at -6, -3, -5: plain at -5, -4, lag at -4, stick and worn stay at -5.
        Run.check(22, "stick and worn are as good: the first", """
                tell 'plain 1;back 6;on 3;back 2;'
                kind(0,3,0) 2
                kind(0,3,1) 0
                """);
        // By 4 turns it has play enough not to be drawn on at all.
        Run.check(22, "worn is the best", """
                tell 'plain 1;on 4;back 4;'
                alter(0,2,4)
                kind(0,2,0) 3
                kind(0,2,1) 0
                """);
    }

    private static void swap() {
        // As it is: the lag one goes 1 back, the stick one is pulled by 1 and stays.
        String two = "tell 'lag 0;stick 0;back 2;'\n";
        Run.bounds(23, "tell 'lag 0;stick 0;back 1;'", "swap(#,0)", 0, -4, 200, 1);
        Run.bounds(23, "tell 'lag 0;stick 0;back 1;'", "swap(#,1)", 0, -4, 200, 1);
        Run.bounds(23, "tell 'lag 0;lag 0;stick 0;on 1;'", "swap(3,#)", 0, 12, 1, 2);
        Run.check(23, "no arm, one arm: none", """
                add(18)
                swap(1,0) NONE
                swap(1,1) NONE
                hang(0,9)
                swap(1,0) NONE
                swap(1,1) NONE
                swap(0,0) NONE
                """);
        Run.check(23, "no strokes: none", """
                hang(1,0)
                hang(2,0)
                pull(7)
                swap(200,0) NONE
                swap(200,1) NONE
                """);
        Run.check(23, "BAD ahead of NONE", """
                swap(201,0) BAD
                swap(-1,0) BAD
                swap(0,2) BAD
                swap(0,-1) BAD
                """);
        Run.check(23, "less, by one", two + """
                runs(1,2) 2
                swap(1,0) 1
                swap(1,1) 1
                """);
        Run.check(23, "as much isn't less", """
                tell 'plain 2;plain 5;on 9;'
                swap(1,0) NONE
                swap(1,1) NONE
                """);
    }

    /** The arms, each without slack, of which these two should change: by 2 on, 1 off, not 2. */
    private static void changed(String kinds, int two) {
        String[] names = {"plain", "lag", "stick", "worn"};
        StringBuilder text = new StringBuilder();
        for (char kind : kinds.toCharArray()) {
            text.append(names[kind - '0']).append(" 0;");
        }
        Run.check(23, "of " + kinds, "tell '" + text + "on 2;'\nruns(1,2) 2\nswap(1,0) " + two + "\nswap(1,1) 1\n");
    }

    private static void swapAtItsEnds() {
        // Behind the lag one, which comes by 1, stick and worn ones stay: it had better be the last.
        changed("12", 1);
        changed("122", 2);
        changed("312", 12);
        changed("1222", 3);
        changed("3012", 13);
        changed("3212", 23);
        changed("3122", 13);
        Run.check(23, "of several the least", """
                tell 'plain 0;plain 2;stick 0;on 3;'
                swap(1,0) 2
                swap(1,1) 2
                """);
        // The worn one takes its 9 turns along: it stays as the second, too.
        Run.check(23, "turns change too: no less", """
                tell 'worn 0;plain 0;on 3;'
                alter(0,2,9)
                swap(1,0) NONE
                """);
        // The worn one leaves the plain one its 9 turns: as the first it comes by 3, the plain one by 1.
        Run.check(23, "turns change too: less", """
                tell 'plain 2;worn 0;on 3;'
                alter(0,2,9)
                swap(1,0) 1
                swap(1,1) 2
                """);
        // Alike but for where they are, 7 and 5: were that changed too, the last one would be 2 off.
        Run.check(23, "where they are stays", """
                tell 'plain 2;plain 2;on 0;'
                pull(18)
                runs(1,2) 4
                swap(1,0) NONE
                """);
        // Alike but for their ways, back and on: were these changed too, it would be 1 off.
        Run.check(23, "their ways stay", """
                tell 'worn 0;worn 0;back 3;back 2;back 1;'
                pull(18)
                alter(1,1,9)
                pull(7)
                alter(1,1,0)
                alter(0,2,0)
                arm(0,4) 0
                arm(1,4) 2
                runs(3,2) 3
                swap(3,0) NONE
                """);
    }

    private static void miss() {
        Run.bounds(24, FIVE, "miss(#,0)", 0, -4, 200, 0);
        Run.bounds(24, "tell 'plain 2;on 0;on 5;back 1;on 3;'", "miss(4,#)", 0, 3, 1, 1);
        Run.check(24, "no strokes: none", """
                hang(0,9)
                pull(18)
                miss(200,0) NONE
                miss(200,1) NONE
                """);
        Run.check(24, "no arms: none", """
                add(18)
                miss(1,0) NONE
                miss(1,1) NONE
                """);
        Run.check(24, "BAD ahead of NONE", """
                miss(201,0) BAD
                miss(-1,0) BAD
                miss(0,2) BAD
                miss(0,-1) BAD
                """);
        Run.check(24, "the first of sixteen", """
                hang(0,2)
                add(18)
                15 times add(9)
                miss(16,0) 0
                miss(16,1) 0
                """);
        Run.check(24, "the last of sixteen", """
                hang(0,2)
                15 times add(9)
                add(18)
                miss(16,0) 15
                miss(16,1) 0
                miss(15,0) NONE
                """);
        Run.check(24, "of several the first", """
                tell 'plain 9;on 2;on 2;'
                miss(2,0) 0
                miss(2,1) 2
                """);
        Run.check(24, "as much isn't less", """
                tell 'plain 2;on 9;on 9;'
                miss(2,0) NONE
                miss(2,1) NONE
                """);
        Run.check(24, "a stroke that is 0 is none that had better be 0", """
                tell 'plain 2;on 0;'
                pull(18)
                miss(1,0) NONE
                """);
        // It is 0, not missed as by odds: in that step the arm comes.
        Run.check(24, "arms move in that step", """
                tell 'plain 9;back 5;'
                pull(18)
                alter(0,1,3)
                runs(1,2) 3
                miss(1,0) NONE
                alter(0,1,0)
                runs(1,2) 0
                miss(1,0) NONE
                """);
    }

    private static void lead() {
        Run.bounds(25, "tell 'plain 2;on 2;back 2;'", "lead(#,1)", 0, 0, 200, 1);
        Run.bounds(25, "tell 'plain 2;on 2;back 2;'", "lead(2,#)", 0, 8, 1, 1);
        Run.check(25, "v 0 is the best", """
                tell 'plain 9;on 9;'
                lead(1,0) 0
                lead(1,1) 0
                """);
        Run.check(25, "v 18 is the best", """
                tell 'plain 9;back 9;'
                lead(1,0) 18
                lead(1,1) 0
                """);
        Run.check(25, "9 is the most: farther would be better", """
                tell 'plain 9;on 9;'
                pull(18)
                lead(1,0) 0
                lead(1,1) 9
                tell 'plain 9;back 9;'
                pull(0)
                lead(1,0) 0
                """);
        Run.check(25, "behind none of them: 0, whatever the error is now", """
                tell 'plain 9;on 9;'
                pull(18)
                lead(0,0) 0
                lead(0,1) 0
                """);
        // The hand at v and at v - 9: by 4 and by 5 it is 5 off at the worst.
        Run.check(25, "behind any, not the last alone; of several the least", """
                tell 'plain 9;on 9;back 9;'
                lead(2,0) 4
                lead(2,1) 5
                """);
        Run.check(25, "no arms: the least", """
                add(18)
                lead(1,0) 0
                lead(200,1) 0
                """);
        Run.check(25, "no strokes: where the arm is", """
                hang(0,5)
                lead(1,0) 9
                lead(1,1) 0
                pull(10)
                lead(1,0) 8
                """);
        Run.check(25, "it is moved as by pull(): arms come along", """
                tell 'plain 0;on 0;'
                lead(1,0) 0
                lead(1,1) 0
                """);
    }

    private static void luck() {
        Run.bounds(26, FIVE, "luck(#,0,1,0)", 0, 0, 10, 1);
        Run.bounds(26, FIVE, "luck(0,#,1,0)", 0, 0, 99, 1);
        Run.bounds(26, FIVE, "luck(5,0,#,1)", 0, 1, 8, 256);
        Run.bounds(26, FIVE, "luck(3,0,1,#)", 0, 3, 1, 10);
        Run.check(26, "e or less", FIVE + """
                luck(0,1,1,0) 0
                luck(0,2,1,0) 1
                luck(0,3,1,0) 1
                """);
        Run.check(26, "0 is 0 by 1, all is 1 by 1", FIVE + """
                luck(0,1,8,0) 0
                luck(0,1,8,1) 1
                luck(10,0,8,0) 1
                luck(10,0,8,1) 1
                luck(7,2,8,0) 1
                luck(7,2,8,1) 1
                """);
        Run.check(26, "1 and 9 out of ten, eight times", FIVE + """
                luck(1,1,8,0) 1
                luck(1,1,8,1) 100000000
                luck(9,1,8,0) 43046721
                luck(9,1,8,1) 100000000
                """);
        Run.check(26, "in lowest terms", FIVE + """
                luck(2,0,2,0) 1
                luck(2,0,2,1) 25
                luck(8,0,3,0) 64
                luck(8,0,3,1) 125
                """);
    }

    private static void luckAtItsEnds() {
        Run.check(26, "no steps: as it is now", """
                tell 'plain 2;on 5;'
                steps(1)
                luck(5,1,0,0) 0
                luck(5,1,0,1) 1
                luck(5,2,0,0) 1
                luck(5,2,0,1) 1
                """);
        Run.check(26, "no strokes: as it is now", """
                hang(0,9)
                pull(18)
                alter(0,1,0)
                luck(0,8,8,0) 0
                luck(5,8,8,0) 0
                luck(5,9,8,0) 1
                luck(10,9,8,1) 1
                """);
        // Missed: 9 off. Not missed: it comes.
        Run.check(26, "no arm moves in a step that is missed, though it is pulled", """
                tell 'plain 9;on 0;'
                pull(18)
                alter(0,1,0)
                luck(10,8,1,0) 0
                luck(10,9,1,0) 1
                luck(4,0,1,0) 3
                luck(4,0,1,1) 5
                """);
        // Both: 1 off; the first alone: 2; the second alone: 1; none: 0.
        Run.check(26, "a stroke that is missed has had its turn", """
                tell 'plain 2;on 5;back 1;'
                luck(2,1,2,0) 21
                luck(2,1,2,1) 25
                luck(2,0,2,0) 1
                luck(2,0,2,1) 25
                """);
        Run.check(26, "BAD in several", """
                luck(11,100,9,2) BAD
                luck(-1,-1,-1,-1) BAD
                """);
    }

    private static void mean() {
        Run.bounds(27, FIVE, "mean(#,1,0)", 0, 2, 10, 0);
        Run.bounds(27, FIVE, "mean(5,#,1)", 0, 1, 8, 128);
        Run.bounds(27, FIVE, "mean(3,1,#)", 0, 7, 1, 5);
        Run.check(27, "0 is 0 by 1", FIVE + """
                mean(10,8,0) 0
                mean(10,8,1) 1
                mean(0,0,0) 0
                mean(0,0,1) 1
                """);
        Run.check(27, "sure is by 1", FIVE + """
                mean(0,8,0) 2
                mean(0,8,1) 1
                """);
        // 2, but for all missed: 2 less 2 in ten to the eighth, 2 less 2 times 9 to the eighth in it.
        Run.check(27, "1 and 9 out of ten, eight times", FIVE + """
                mean(1,8,0) 99999999
                mean(1,8,1) 50000000
                mean(9,8,0) 56953279
                mean(9,8,1) 50000000
                """);
        Run.check(27, "no steps: the error now", """
                tell 'plain 9;on 5;'
                pull(18)
                mean(5,0,0) 9
                mean(5,0,1) 1
                """);
        Run.check(27, "no strokes: the error now", """
                hang(0,9)
                pull(18)
                alter(0,1,0)
                mean(5,8,0) 9
                mean(5,8,1) 1
                """);
        Run.check(27, "no arm moves in a step that is missed", """
                tell 'plain 9;on 0;'
                pull(18)
                alter(0,1,0)
                mean(4,1,0) 18
                mean(4,1,1) 5
                """);
    }

    private static void nothingThere() {
        Run.check(25, "nothing there", """
                lead(0,0) 0
                lead(0,1) 0
                lead(200,0) 0
                lead(200,1) 0
                """);
        Run.check(26, "nothing there", """
                luck(0,0,0,0) 1
                luck(10,0,8,1) 1
                """);
        Run.check(27, "nothing there", """
                mean(0,0,0) 0
                mean(5,8,0) 0
                mean(5,8,1) 1
                """);
    }

    private static void changeNothing() {
        String four = "tell 'worn 1;lag 2;stick 0;plain 1;on 7;back 6;on 2;'\n" + MUCH;
        String[] calls = {"slack(3,9,0)", "kind(2,9,1)", "swap(9,0)", "miss(9,0)", "lead(9,0)", "luck(3,2,5,0)", "mean(3,5,0)"};
        int[] promises = {21, 22, 23, 24, 25, 26, 27};
        Model m = new Model();
        for (char c : "worn 1;lag 2;stick 0;plain 1;on 7;back 6;on 2;".toCharArray()) {
            m.feed(c);
        }
        m.text();
        m.steps(3);
        long[] due = {m.slack(3, 9, 0), m.kind(2, 9, 1), m.swap(9, 0), m.miss(9, 0), m.lead(9, 0), m.luck(3, 2, 5, 0), m.mean(3, 5, 0)};
        for (int i = 0; i < calls.length; i++) {
            Run.check(promises[i], "a question changes nothing", four + calls[i] + " " + due[i]);
        }
    }
}
