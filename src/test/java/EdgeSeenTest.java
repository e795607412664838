/** Promises 28 to 33 at their edges: where it was, by a seed. */
public final class EdgeSeenTest {
    private static final String ONE = "tell 'plain 0;on 1;'\n";

    public static void main(String[] args) {
        see();
        seeFull();
        seenAtItsEnds();
        forget();
        kinds();
        kindsOfAnArmThatIsGone();
        slacks();
        ask();
        askAtItsEnds();
        drift();
        driftBySeeds();
        Checks.finish();
    }

    private static void see() {
        Run.bounds(28, ONE, "see(#,0,200000)", 0, 1, 40, 1);
        Run.bounds(28, ONE, "see(0,#,200000)", 0, 1, 0, 1);
        Run.bounds(28, "4 times hang(0,0)", "see(0,#,200000)", 0, 1, 3, 1);
        Run.bounds(28, ONE, "see(0,0,#)", 100000, 1, 300000, 1);
        Run.check(28, "no arm", """
                see(0,0,200000) BAD
                see(0,-1,200000) BAD
                count(0) 0
                """);
        Run.check(28, "an arm that is gone can't be seen", ONE + """
                cut(0)
                see(0,0,200000) BAD
                """);
        Run.check(28, "BAD in several", ONE + """
                see(41,1,99999) BAD
                see(-1,-1,300001) BAD
                """);
    }

    private static void seeFull() {
        Run.check(28, "FULL: the seventh", ONE + """
                see(0,0,200000) 1
                see(0,0,200000) 2
                see(1,0,200001) 3
                see(2,0,200002) 4
                see(3,0,200003) 5
                see(40,0,200040) 6
                see(0,0,200000) FULL
                see(0,0,200009) FULL
                count(0) 6
                slacks(0) 1
                """);
        Run.check(28, "BAD ahead of FULL", ONE + """
                6 times see(0,0,200000)
                see(41,0,200000) BAD
                see(-1,0,200000) BAD
                see(0,1,200000) BAD
                see(0,-1,200000) BAD
                see(0,0,99999) BAD
                see(0,0,300001) BAD
                """);
        Run.check(28, "room again", ONE + """
                6 times see(0,0,200000)
                forget(5) 6
                see(0,0,200001) 6
                slacks(0) 0
                see(0,0,200001) FULL
                """);
        Run.check(28, "room again behind a text", ONE + """
                6 times see(0,0,200000)
                tell 'plain 0;'
                see(0,0,200000) 1
                """);
    }

    private static void seenAtItsEnds() {
        Run.check(28, "behind none: where it is now", ONE + """
                see(0,0,200000) 1
                slacks(0) 1023
                see(0,0,200001) 2
                slacks(0) 0
                """);
        Run.check(28, "behind 40, and not behind 39 or 41", ONE + """
                see(40,0,200040) 1
                slacks(0) 1
                forget(0)
                see(40,0,200039) 1
                slacks(0) 2
                forget(0)
                see(40,0,200041) 1
                slacks(0) 0
                """);
        Run.check(28, "back of where all began", """
                tell 'plain 0;back 1;'
                see(40,0,199960) 1
                slacks(0) 1
                """);
        Run.check(28, "the farthest places", ONE + """
                see(0,0,100000) 1
                kinds(0) 0
                forget(0)
                see(0,0,300000) 1
                kinds(0) 0
                """);
        Run.check(28, "each of six is looked at: the first", ONE + """
                see(0,0,200001) 1
                5 times see(0,0,200000)
                kinds(0) 0
                slacks(0) 0
                """);
        Run.check(28, "each of six is looked at: the sixth", ONE + """
                5 times see(0,0,200000)
                kinds(0) 15
                see(0,0,200001) 6
                kinds(0) 0
                slacks(0) 0
                """);
        Run.check(28, "in any order of steps", ONE + """
                see(7,0,200006)
                see(3,0,200002)
                slacks(0) 2
                """);
        Run.check(28, "no strokes: where it is", """
                hang(0,0)
                see(40,0,200000)
                slacks(0) 1023
                kinds(0) 15
                """);
    }

    private static void forget() {
        Run.bounds(29, "", "forget(#)", 0, 0, 0, 0);
        Run.bounds(29, ONE + "see(0,0,200000)", "forget(#)", 0, 1, 1, 1);
        Run.bounds(29, ONE + "6 times see(0,0,200000)", "forget(#)", 0, 6, 6, 6);
        Run.check(29, "all of them stay", ONE + """
                see(3,0,200003)
                see(0,0,200001)
                forget(2) 2
                count(0) 2
                slacks(0) 0
                """);
        Run.check(29, "the first alone stays", ONE + """
                see(3,0,200003)
                see(0,0,200001)
                forget(1) 2
                count(0) 1
                slacks(0) 1
                forget(2) BAD
                """);
        Run.check(29, "none stays", ONE + """
                see(3,0,200003)
                see(0,0,200001)
                forget(0) 2
                count(0) 0
                slacks(0) 1023
                kinds(0) 15
                forget(0) 0
                forget(1) BAD
                """);
    }

    private static void kinds() {
        Run.bounds(30, "hang(0,0)", "kinds(#)", 0, 15, 0, 15);
        Run.bounds(30, "4 times hang(0,0)", "kinds(#)", 0, 15, 3, 15);
        Run.check(30, "no arm", """
                kinds(0) BAD
                kinds(-1) BAD
                """);
        Run.check(30, "nothing seen: every kind", ONE + """
                kinds(0) 15
                """);
        // By 1 and by 4: plain 1, 4, lag 0, 3, stick 0, 4; worn, with 5 turns, stays.
        String apart = "tell 'plain 0;on 1;on 3;'\nalter(0,2,5)\n";
        Run.check(30, "plain alone", apart + """
                see(1,0,200001)
                kinds(0) 1
                """);
        Run.check(30, "lag alone", apart + """
                see(2,0,200003)
                kinds(0) 2
                """);
        Run.check(30, "stick alone", apart + """
                see(1,0,200000)
                kinds(0) 14
                see(2,0,200004)
                kinds(0) 4
                """);
        Run.check(30, "worn alone", apart + """
                see(2,0,200000)
                kinds(0) 8
                """);
        Run.check(30, "none", apart + """
                see(2,0,200001)
                kinds(0) 0
                """);
        Run.check(30, "all else as it is: the other one's kind, too", """
                tell 'lag 0;lag 0;on 9;'
                see(1,1,200008)
                kinds(0) 13
                kinds(1) 13
                see(1,0,200009)
                kinds(0) 13
                kinds(1) 0
                """);
    }

    private static void kindsOfAnArmThatIsGone() {
        Run.check(30, "never so: neither where it was nor anywhere", """
                tell 'plain 0;plain 0;on 1;'
                see(0,1,200000)
                kinds(0) 15
                slacks(0) 1023
                cut(1)
                kinds(0) 0
                slacks(0) 0
                ask(0,0) NONE
                ask(0,1) NONE
                kinds(1) BAD
                slacks(1) BAD
                count(0) 1
                """);
        Run.check(30, "one of several is gone", """
                4 times hang(0,0)
                see(0,0,200000)
                see(0,3,200000)
                kinds(0) 15
                cut(3)
                kinds(0) 0
                kinds(2) 0
                forget(1)
                kinds(0) 15
                """);
        Run.check(30, "never so, behind 40 steps either", """
                tell 'plain 0;plain 0;on 1;'
                see(40,1,200040)
                cut(1)
                kinds(0) 0
                slacks(0) 0
                """);
    }

    private static void slacks() {
        Run.bounds(31, "hang(0,0)", "slacks(#)", 0, 1023, 0, 1023);
        Run.bounds(31, "4 times hang(0,0)", "slacks(#)", 0, 1023, 3, 1023);
        Run.check(31, "no arm", """
                slacks(0) BAD
                slacks(-1) BAD
                """);
        Run.check(31, "nothing seen: every slack", ONE + """
                slacks(0) 1023
                """);
        Run.check(31, "bit 0 alone", ONE + """
                see(1,0,200001)
                slacks(0) 1
                """);
        Run.check(31, "bit 9 alone", ONE + """
                see(9,0,200000)
                slacks(0) 512
                forget(0)
                see(10,0,200001)
                slacks(0) 512
                """);
        Run.check(31, "all but bit 0", ONE + """
                see(1,0,200000)
                slacks(0) 1022
                """);
        Run.check(31, "none", ONE + """
                see(1,0,200002)
                slacks(0) 0
                """);
        Run.check(31, "of the last arm, of the first one", """
                tell 'plain 1;plain 2;on 9;'
                see(1,1,200006)
                slacks(0) 2
                slacks(1) 4
                """);
    }

    private static void ask() {
        Run.bounds(32, "tell 'plain 2;on 9;'", "ask(#,0)", 0, 1, 0, 1);
        Run.bounds(32, "4 times hang(0,0)\nadd(18)", "ask(#,1)", 0, 1, 3, 1);
        // By 5 and back: 5 to 9 all stay.
        Run.bounds(32, "tell 'plain 2;on 5;back 5;'", "ask(0,#)", 0, 1, 1, 5);
        Run.check(32, "no arm", """
                add(18)
                ask(0,0) BAD
                ask(-1,0) BAD
                """);
        Run.check(32, "no strokes: behind none", """
                hang(0,0)
                ask(0,0) NONE
                ask(0,1) NONE
                """);
        Run.check(32, "one is left, none is left: none fewer", ONE + """
                see(1,0,200001)
                slacks(0) 1
                ask(0,0) NONE
                ask(0,1) NONE
                see(0,0,200001)
                slacks(0) 0
                ask(0,0) NONE
                ask(0,1) NONE
                """);
        Run.check(32, "two are left", ONE + """
                see(8,0,200000)
                slacks(0) 768
                ask(0,0) 9
                ask(0,1) 1
                """);
        Run.check(32, "BAD ahead of NONE", """
                hang(0,0)
                ask(1,0) BAD
                ask(0,2) BAD
                ask(0,-1) BAD
                """);
    }

    private static void askAtItsEnds() {
        // In each round of ten the hand goes 1 on at last: behind 40 it is at 4, so 4 to 9 stay alike.
        Run.check(32, "behind 40", """
                hang(0,9)
                9 times add(9)
                add(10)
                ask(0,0) 40
                ask(0,1) 6
                """);
        // In each round of ten the hand goes 1 on at first: behind 31 it is at 4, behind 41 at 5.
        Run.check(32, "not behind 41", """
                hang(0,9)
                add(10)
                9 times add(9)
                ask(0,0) 31
                ask(0,1) 6
                """);
        // By 9, at 9 less its slack at once: one place each.
        Run.check(32, "behind one, the first of many as good", """
                tell 'plain 0;on 9;on 9;'
                ask(0,0) 1
                ask(0,1) 1
                """);
        // The arm is at 9, the hand goes 5 on and back: 5 to 9 all stay there.
        Run.check(32, "slack 9 is one of them", """
                tell 'on 5;back 5;'
                pull(18)
                hang(0,2)
                ask(0,0) 1
                ask(0,1) 5
                """);
        Run.check(32, "slack 9 alone is left, slack 0 alone is left", ONE + """
                see(9,0,200000)
                slacks(0) 512
                ask(0,0) NONE
                ask(0,1) NONE
                forget(0)
                see(1,0,200001)
                slacks(0) 1
                ask(0,0) NONE
                """);
        // What an earlier question looked at is nowhere in it.
        Run.check(32, "asked again from elsewhere", """
                tell 'plain 0;on 9;back 9;'
                ask(0,1) 1
                drop(0)
                add(14)
                add(4)
                pull(18)
                see(1,0,200009)
                slacks(0) 992
                ask(0,0) NONE
                """);
        Run.check(32, "at the worst: the most that stay alike count", """
                tell 'plain 0;on 1;back 1;'
                ask(0,0) 1
                ask(0,1) 9
                """);
        // The last one has 9 of slack itself: it shows nothing of the first one's behind one step.
        Run.check(32, "where the last arm is", """
                tell 'plain 0;plain 9;on 9;'
                ask(0,0) 2
                ask(0,1) 1
                """);
    }

    private static void drift() {
        // By seed 0: 9 back, then 8, 4 on.
        Run.bounds(33, "hang(0,0)", "drift(0,#,1)", 1, 9, 200, 980);
        Run.bounds(33, "hang(0,3)", "drift(0,1,#)", 0, 3, 1, 6);
        Run.check(33, "STATE: there are no arms", """
                add(18)
                drift(0,1,0) STATE
                drift(0,200,1) STATE
                """);
        Run.check(33, "STATE: no arms any more", """
                hang(0,0)
                cut(0)
                drift(0,1,0) STATE
                """);
        Run.check(33, "BAD ahead of STATE", """
                drift(0,0,0) BAD
                drift(0,201,0) BAD
                drift(0,1,2) BAD
                drift(0,1,-1) BAD
                """);
        Run.check(33, "strokes say nothing in it", """
                tell 'plain 0;on 9;'
                drift(0,2,1) 17
                steps(1)
                drift(0,2,1) 17
                rule(2) 1
                """);
        Run.check(33, "from where all is", """
                hang(0,9)
                pull(18)
                drift(0,1,0) 0
                drift(0,1,1) 0
                drift(0,2,0) 8
                """);
    }

    private static void driftBySeeds() {
        Run.check(33, "least and most of a move: got 0, got 18 modulo 19", """
                hang(0,9)
                pull(18)
                drift(0,1,0) 0
                drift(0,1,1) 0
                drift(15,1,0) 9
                drift(15,1,1) 9
                """);
        // The seed becomes c5531b80 in hex: with bit 31 it would be 4, without bit 30 it would be 5.
        Run.check(33, "bits 16 to 30", """
                hang(0,0)
                drift(3,1,1) 8
                """);
        Run.check(33, "seeds at their ends: numbers wrap around", """
                hang(0,0)
                drift(1,6,1) 34
                drift(-1,6,1) 27
                drift(MAX,6,1) 27
                drift(MIN,6,1) 44
                drift(0,6,1) 44
                drift(MAX,200,1) 863
                drift(MIN,200,1) 980
                drift(1,200,1) 957
                """);
    }
}
