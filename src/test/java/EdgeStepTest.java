/** Promises 16 to 20 at their edges: steps, and what is told by steps. */
public final class EdgeStepTest {
    private static final String TWO = "tell 'plain 2;lag 0;on 5;back 4;'\n";

    public static void main(String[] args) {
        steps();
        stepsFull();
        stepsWithoutStrokesOrArms();
        strokesComeRound();
        runs();
        runsFromNowOn();
        ahead();
        when();
        whenFromWhereItIs();
        again();
        againByEachThing();
        Checks.finish();
    }

    private static void steps() {
        Run.bounds(16, "tell 'plain 0;on 1;back 1;'", "steps(#)", 0, 0, 100, 100);
        Run.check(16, "none", TWO + """
                steps(0) 0
                rule(2) 0
                rule(3) 200000
                """);
        // The hand 5, 1, 6; the first arm 3, 3, 4; the second 2, 2, 3.
        Run.check(16, "one, and one more: each answer is of its own steps", TWO + """
                steps(1) 5
                rule(2) 1
                steps(1) 0
                rule(2) 2
                steps(1) 2
                rule(2) 3
                """);
        Run.check(16, "without signs, of all arms", """
                tell 'plain 0;plain 0;on 3;back 3;'
                steps(2) 12
                """);
        Run.check(16, "what arms moved by pull() isn't of them", """
                hang(0,0)
                pull(18)
                steps(1) 0
                """);
    }

    private static void stepsFull() {
        Run.check(16, "9999 is the last step", """
                tell 'plain 0;on 1;'
                99 times steps(100)
                rule(2) 9900
                steps(100) FULL
                steps(101) BAD
                steps(-1) BAD
                steps(99) 99
                rule(2) 9999
                steps(1) FULL
                steps(100) FULL
                steps(0) 0
                steps(101) BAD
                steps(MAX) BAD
                steps(MIN) BAD
                """);
        Run.check(16, "by steps there is no such end", """
                tell 'plain 0;on 1;'
                99 times steps(100)
                steps(99)
                runs(200,0) 200
                ahead(0,200) 210199
                when(0,210199) 200
                lead(200,0) 0
                slack(0,200,1) 0
                miss(200,0) NONE
                """);
        Run.check(16, "room again behind back()", """
                tell 'plain 0;on 1;'
                keep(0)
                99 times steps(100)
                steps(100) FULL
                back(0) 0
                steps(100) 100
                """);
        Run.check(16, "room again behind a text", """
                tell 'plain 0;on 1;'
                99 times steps(100)
                steps(100) FULL
                tell 'plain 0;on 1;'
                steps(100) 100
                """);
    }

    private static void stepsWithoutStrokesOrArms() {
        // As NOTES.md says: the hand and the arms stay, but the step is taken.
        Run.check(16, "no strokes: nothing moves, step is 1 more", """
                hang(0,9)
                pull(18)
                alter(0,1,0)
                steps(1) 0
                rule(2) 1
                rule(3) 200009
                arm(0,2) 200000
                steps(100) 0
                rule(2) 101
                """);
        Run.check(16, "no strokes, full all the same", """
                99 times steps(100)
                steps(100) FULL
                steps(99) 0
                steps(1) FULL
                """);
        Run.check(16, "a stroke of nothing is a move of the hand: an arm that is pulled comes", """
                hang(0,9)
                pull(18)
                alter(0,1,0)
                add(9)
                steps(1) 9
                """);
        Run.check(16, "no arms: the hand moves", """
                tell 'on 5;back 4;'
                steps(3) 0
                rule(3) 200006
                rule(2) 3
                """);
    }

    private static void strokesComeRound() {
        Run.check(16, "one stroke", """
                add(10)
                steps(100)
                rule(3) 200100
                """);
        Run.check(16, "sixteen strokes: the last, then the first", """
                add(18)
                14 times add(9)
                add(0)
                steps(1)
                rule(3) 200009
                steps(14)
                rule(3) 200009
                steps(1)
                rule(3) 200000
                steps(1)
                rule(3) 200009
                """);
        Run.check(16, "what step leaves by fewer strokes, by more strokes", """
                tell 'on 1;on 2;on 3;on 4;on 5;'
                steps(4)
                rule(5) 15
                drop(3)
                rule(5) 12
                drop(2)
                rule(5) 11
                2 times add(18)
                rule(5) 11
                add(0)
                rule(5) 1
                """);
    }

    private static void runs() {
        for (int what = 0; what <= 4; what++) {
            // Each move of the arm but the first is a turn.
            long[] none = {0, 200000, 0, 0, 0};
            long[] most = {200, 200000, 0, 0, 199};
            Run.bounds(17, "tell 'plain 0;on 1;back 1;'", "runs(#," + what + ")", 0, none[what], 200, most[what]);
        }
        Run.bounds(17, TWO + "steps(2)", "runs(1,#)", 0, 2, 4, 0);
        Run.check(17, "no arms, no strokes", """
                runs(0,0) 0
                runs(200,0) 0
                runs(200,1) 200000
                runs(200,2) 0
                runs(200,3) 0
                runs(200,4) 0
                """);
        Run.check(17, "no arms", """
                tell 'back 9;'
                runs(200,0) 0
                runs(200,1) 198200
                runs(200,2) 0
                runs(200,3) 0
                runs(200,4) 0
                """);
        Run.check(17, "no strokes: as it is now", """
                hang(0,9)
                pull(0)
                alter(0,1,0)
                runs(200,0) 0
                runs(200,1) 199991
                runs(200,2) 9
                runs(200,3) 9
                runs(200,4) 0
                """);
        Run.check(17, "BAD in both", """
                runs(201,5) BAD
                runs(-1,-1) BAD
                """);
    }

    private static void runsFromNowOn() {
        Run.check(17, "the greatest error is now, is on the way, is at the last", """
                tell 'plain 9;on 0;back 3;on 9;back 9;'
                pull(18)
                runs(0,3) 9
                runs(2,3) 9
                runs(2,2) 6
                alter(0,1,8)
                runs(1,3) 9
                runs(1,2) 8
                """);
        Run.check(17, "on the way", """
                tell 'plain 9;on 7;back 7;on 8;'
                runs(2,3) 7
                runs(2,2) 0
                runs(3,3) 8
                """);
        Run.check(17, "turns beyond 9, too", """
                tell 'plain 0;on 1;back 1;'
                alter(0,2,9)
                runs(2,4) 1
                runs(12,4) 11
                runs(200,4) 199
                steps(1)
                runs(1,4) 1
                runs(200,4) 200
                """);
        Run.check(17, "turns of an arm that stays are none", """
                tell 'stick 0;on 1;back 1;'
                runs(200,4) 0
                runs(200,0) 0
                """);
        Run.check(17, "what was moved before now isn't of them", TWO + """
                steps(1) 5
                runs(0,0) 0
                runs(0,4) 0
                """);
    }

    private static void ahead() {
        Run.bounds(18, "tell 'plain 0;on 1;'", "ahead(0,#)", 0, 200000, 200, 200200);
        Run.bounds(18, "tell 'plain 0;back 9;'", "ahead(0,#)", 0, 200000, 200, 198200);
        // Behind one step the first arm is at 3, the second at 2.
        Run.bounds(18, TWO, "ahead(#,1)", 0, 200003, 1, 200002);
        Run.bounds(18, "4 times hang(0,0)\nadd(10)", "ahead(#,3)", 0, 200003, 3, 200003);
        Run.check(18, "no arm", """
                add(18)
                ahead(0,0) BAD
                ahead(-1,1) BAD
                """);
        Run.check(18, "no stroke", """
                hang(0,0)
                pull(12)
                ahead(0,200) 200003
                """);
    }

    private static void when() {
        Run.bounds(19, TWO, "when(0,#)", 100000, -4, 300000, -4);
        Run.bounds(19, "tell 'plain 0;plain 3;on 1;'", "when(#,200001)", 0, 1, 1, 4);
        Run.bounds(19, "4 times hang(0,0)\nadd(10)", "when(#,200001)", 0, 1, 3, 1);
        Run.check(19, "no arm", """
                add(18)
                when(0,200000) BAD
                when(-1,200000) BAD
                """);
        Run.check(19, "no stroke", """
                hang(0,0)
                when(0,200000) 0
                when(0,200001) NONE
                when(0,199999) NONE
                """);
        Run.check(19, "behind 200 at the most, on", """
                tell 'plain 0;on 1;'
                when(0,200199) 199
                when(0,200200) 200
                when(0,200201) NONE
                """);
        Run.check(19, "behind 200 at the most, back", """
                tell 'plain 0;back 9;'
                when(0,198201) 200
                when(0,198200) 200
                when(0,198199) NONE
                """);
    }

    private static void whenFromWhereItIs() {
        Run.check(19, "at it now: behind none", """
                tell 'plain 0;on 9;'
                when(0,200000) 0
                steps(1)
                when(0,200009) 0
                """);
        Run.check(19, "at it, beyond it, just not", """
                tell 'plain 0;on 4;on 3;back 9;back 9;'
                when(0,200003) 1
                when(0,200004) 1
                when(0,200005) 2
                when(0,200007) 2
                when(0,200008) NONE
                when(0,199999) 3
                when(0,199998) 3
                when(0,199997) 4
                """);
        Run.check(19, "a place that it is past already is met on its way back alone", """
                tell 'plain 0;on 4;back 3;'
                steps(1)
                when(0,200003) 1
                when(0,200001) 1
                when(0,200000) NONE
                when(0,200005) 2
                """);
        Run.check(19, "the first time of several", """
                tell 'plain 0;on 2;back 2;'
                when(0,200002) 1
                when(0,200001) 1
                """);
    }

    private static void again() {
        Run.check(20, "nothing there: behind one", """
                again() 1
                """);
        Run.check(20, "no arms: by strokes alone", """
                add(18)
                again() 1
                14 times add(9)
                again() 15
                add(18)
                again() 16
                """);
        Run.check(20, "no strokes: behind one", """
                hang(3,9)
                pull(0)
                again() 1
                steps(7)
                again() 1
                """);
        Run.check(20, "behind one, at least: not behind none", """
                tell 'plain 9;on 0;'
                again() 1
                """);
        Run.check(20, "two rounds of sixteen: a stick one comes each second round", """
                hang(2,0)
                15 times add(9)
                add(10)
                steps(48)
                again() 32
                """);
        Run.check(20, "behind none: a way is never none again", """
                tell 'plain 0;on 1;'
                again() NONE
                steps(1)
                again() 1
                """);
    }

    private static void againByEachThing() {
        Run.check(20, "as far from the hand, with its sign", """
                tell 'plain 9;on 4;back 8;on 4;'
                pull(11)
                again() 3
                drop(0)
                add(5)
                add(13)
                again() 2
                """);
        Run.check(20, "3 ahead of the hand isn't 3 behind it", """
                tell 'plain 9;on 6;back 6;'
                pull(6)
                ahead(0,1) 200000
                again() 2
                drop(1)
                again() NONE
                """);
        Run.check(20, "each arm: the last one stands as now, the first has turned", """
                tell 'plain 0;plain 9;on 1;back 1;'
                steps(2)
                again() NONE
                """);
        Run.check(20, "each arm: the first one stands as now, the last doesn't", """
                tell 'plain 0;stick 0;on 1;'
                steps(3)
                again() 2
                """);
        Run.check(20, "its way: within its play it comes on, then back", """
                tell 'plain 1;on 3;back 2;back 3;on 2;'
                alter(0,2,9)
                steps(9)
                arm(0,4) 2
                again() 4
                """);
        Run.check(20, "its turns", """
                tell 'plain 0;on 1;back 1;'
                steps(2)
                again() NONE
                steps(6)
                arm(0,3) 7
                again() NONE
                steps(1)
                arm(0,3) 8
                again() NONE
                steps(1)
                arm(0,3) 9
                again() 2
                """);
        Run.check(20, "the turn of the same stroke", """
                tell 'plain 9;on 0;on 0;on 0;'
                again() 3
                steps(2)
                again() 3
                """);
        Run.check(20, "a step that isn't the first of its round", """
                tell 'plain 0;on 1;on 2;'
                steps(3)
                again() 2
                """);
    }
}
