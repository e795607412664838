/** Promises 1 to 8 at their edges: what is the last that is taken, empty, full, refused. */
public final class EdgeTextTest {
    /** Something of all there is, so that a refused text has much that could be lost. */
    private static final String MUCH = """
            tell 'worn 3;lag 1;on 7;back 6;'
            steps(3)
            see(2,1,200002)
            keep(0)
            pull(18)
            sheet(0,1,2)
            lay(0,1,5)
            """;

    public static void main(String[] args) {
        newObject();
        feed();
        end();
        emptyTexts();
        tokensAtTheirEdges();
        textsThatEndTooSoon();
        numbersAtTheirBounds();
        mostArmsAndStrokes();
        fullTape();
        takenInPlaceOfWhatThereWas();
        fault();
        rule();
        arm();
        stroke();
        Checks.finish();
    }

    private static void newObject() {
        Run.check(1, "no arms, no strokes", """
                rule(0) 0
                rule(1) 0
                rule(2) 0
                rule(3) 200000
                rule(4) 0
                rule(5) NONE
                arm(0,0) BAD
                stroke(0) BAD
                """);
        Run.check(1, "sheets have nothing", """
                lay(0,0,0) -11
                lay(1,0,0) -11
                lay(2,0,0) -11
                lay(3,0,0) -11
                count(3) NONE
                """);
        Run.check(1, "nothing seen, no image, an empty tape, no fault", """
                count(0) 0
                count(1) 0
                count(2) 0
                count(4) 0
                count(5) 0
                back(0) STATE
                back(1) STATE
                fault() 0
                torn() 0
                """);
    }

    private static void feed() {
        Run.bounds(2, "", "feed(#)", 0, 1, 127, 1);
        Run.bounds(2, "159 times feed(32)", "feed(#)", 0, 160, 127, 160);
        Run.check(2, "FULL: more than 160", """
                159 times feed(32)
                feed(32) 160
                feed(32) FULL
                feed(0) FULL
                feed(127) FULL
                count(2) 160
                """);
        Run.check(2, "BAD ahead of FULL", """
                160 times feed(32)
                feed(-1) BAD
                feed(128) BAD
                """);
        Run.check(2, "room again behind end()", """
                160 times feed(32)
                end(159) 160
                feed(32) 160
                feed(32) FULL
                """);
        Run.check(2, "room again behind text()", """
                160 times feed(32)
                text() 0
                feed(32) 1
                """);
        Run.check(2, "the byte comes behind the others", """
                type 'on 1'
                feed(59) 5
                text() 1
                """);
    }

    private static void end() {
        Run.bounds(3, "", "end(#)", 0, 0, 0, 0);
        Run.bounds(3, "type 'on 1;'", "end(#)", 0, 5, 5, 5);
        Run.bounds(3, "160 times feed(32)", "end(#)", 0, 160, 160, 160);
        Run.check(3, "all of them are kept", """
                type 'on 1;'
                end(5) 5
                count(2) 5
                text() 1
                """);
        Run.check(3, "all but one are kept", """
                type 'on 1;;'
                end(5) 6
                text() 1
                """);
        Run.check(3, "none is kept", """
                type 'on 1;'
                end(0) 5
                count(2) 0
                end(1) BAD
                end(0) 0
                text() 0
                """);
        Run.check(3, "what was cut off isn't had any more", """
                type 'on 12;'
                end(4) 6
                end(5) BAD
                feed(59) 5
                text() 1
                stroke(0) 11
                """);
    }

    private static void emptyTexts() {
        Run.check(4, "an empty tape is a text of no lines", """
                text() 0
                fault() 0
                rule(0) 0
                """);
        Run.check(4, "an empty tape tells all, too", MUCH + """
                text() 0
                rule(0) 0
                rule(1) 0
                rule(2) 0
                rule(3) 200000
                rule(4) 0
                count(0) 0
                count(1) 0
                back(0) STATE
                count(3) 2
                """);
        Run.check(4, "one blank", """
                type ' '
                text() 0
                count(2) 0
                """);
    }

    /** The text is refused at that place, and that which was told stays. */
    private static void refused(String text, int place, int fault) {
        Run.check(4, "refused", MUCH + "type '" + text + "'\n" + refusal(place, fault));
    }

    /** Likewise, a byte that can't be written in a text. */
    private static void refusedByte(int c, int place, int fault) {
        Run.check(4, "refused", MUCH + "type 'on 1;'\nfeed(" + c + ")\n" + refusal(place, fault));
    }

    private static String refusal(int place, int fault) {
        return "text() " + (-10 - place) + "\nfault() " + fault + "\ncount(2) 0\n";
    }

    private static void taken(String text, int lines, int arms, int strokes) {
        Run.check(4, "taken", "type '" + text + "'\ntext() " + lines + "\nfault() 0\ncount(2) 0\nrule(0) " + arms
                + "\nrule(1) " + strokes);
    }

    private static void tokensAtTheirEdges() {
        // Ahead of a and behind z, ahead of 0 and behind 9, about ; and about the blank: no token.
        for (int c : new int[] {0, 9, 10, 13, 31, 33, '/', ':', '<', '@', 'A', 'Z', '[', '`', '{', 127}) {
            refusedByte(c, 5, 1);
        }
        for (char c : new char[] {'`', '{', '/', ':', '<', '!'}) {
            refused("on" + c + "1;", 2, 1);
            refused("on 1" + c + ";", 4, 1);
            refused("on " + c + "1;", 3, 1);
        }
        // The first and the last letter, the first and the last figure are tokens.
        refused("a 1;", 0, 2);
        refused("z 1;", 0, 2);
        refused("0;", 0, 2);
        refused("9;", 0, 2);
        refused("ona 1;", 0, 2);
        refused("onz 1;", 0, 2);
        refused("aon 1;", 0, 2);
        refused("zon 1;", 0, 2);
        // Each as long as may be: a name ends at a figure, a number at a letter, both at ; and the blank.
        taken("on1;back2;lag3;", 3, 1, 2);
        taken("on1 ; back 2;lag  3;", 3, 1, 2);
        refused("on1on2;", 3, 2);
        refused("on 1 2;", 5, 2);
        refused("o n 1;", 0, 2);
        refused("on 1;;", 5, 2);
        for (String name : new String[] {"plain", "lag", "stick", "worn", "on", "back"}) {
            int length = name.length();
            refused(name.substring(0, length - 1) + " 1;", 0, 2);
            refused(name + "s 1;", 0, 2);
            refused(name.substring(1) + " 1;", 0, 2);
            refused("x" + name + " 1;", 0, 2);
            refused(name.substring(0, length - 1) + "x 1;", 0, 2);
            refused("x" + name.substring(1) + " 1;", 0, 2);
            refused(name + " " + name + " 1;", length + 1, 2);
        }
    }

    private static void textsThatEndTooSoon() {
        refused("on", 2, 2);
        refused("on ", 3, 2);
        refused("on 1", 4, 2);
        refused("on 1 ", 5, 2);
        refused("on 1;on", 7, 2);
        refused("on 1;plain", 10, 2);
        refused("on 1;plain 9", 12, 2);
        // A name that begins no line is met ahead of the end.
        refused("o", 0, 2);
    }

    private static void numbersAtTheirBounds() {
        for (String name : new String[] {"plain", "lag", "stick", "worn", "on", "back"}) {
            int arms = name.equals("on") || name.equals("back") ? 0 : 1;
            int at = name.length() + 1;
            for (String number : new String[] {"0", "9", "00", "09"}) {
                taken(name + " " + number + ";", 1, arms, 1 - arms);
            }
            refused(name + " 10;", at, 3);
            refused(name + " 99;", at, 3);
            refused(name + " 000;", at, 1);
            refused(name + " 009;", at, 1);
            refused(name + " 100;", at, 1);
            // Out of bounds is met ahead of what is wrong behind it, too long ahead of out of bounds.
            refused(name + " 10", at, 3);
            refused(name + " 10!", at, 3);
        }
        Run.check(4, "least and most of each", """
                tell 'plain 0;worn 9;on 0;on 9;back 0;back 9;'
                arm(0,1) 0
                arm(1,1) 9
                stroke(0) 10
                stroke(1) 19
                stroke(2) 10
                stroke(3) 1
                """);
        refused("1", 0, 2);
        refused("12", 0, 2);
        refused("123", 0, 1);
        refused("on 1 123", 5, 1);
    }

    private static void mostArmsAndStrokes() {
        String arms = "lag1;plain2;worn3;stick4;";
        String ons = "on1;".repeat(15);
        taken(arms, 4, 4, 0);
        taken(ons + "back9;", 16, 0, 16);
        taken(arms + ons + "back9;", 20, 4, 16);
        taken("on1;" + arms + ons, 20, 4, 16);
        for (String name : new String[] {"plain", "lag", "stick", "worn"}) {
            refused(arms + name + " 1;", 25, 5);
            refused(arms + " " + name + " 1;", 26, 5);
            // It is met at its name, whatever is behind it.
            refused(arms + name, 25, 5);
            refused(arms + name + " 10;", 25, 5);
            refused(arms + name + "!", 25, 5);
        }
        for (String name : new String[] {"on", "back"}) {
            refused(ons + "on1;" + name + " 1;", 64, 5);
            refused(ons + "back1;" + name + " 1;", 66, 5);
            refused(ons + "on1;" + name, 64, 5);
            refused(ons + "on1;" + name + " 10;", 64, 5);
        }
        // One of both is full: the other one still comes.
        refused(arms + ons + "on1;on1;", 89, 5);
        refused(ons + "on1;" + arms + "lag1;", 89, 5);
        refused(arms + "lags 1;", 25, 2);
        Run.check(4, "what there was doesn't count", """
                4 times hang(0,0)
                16 times add(9)
                tell 'lag1;lag1;lag1;lag1;on1;on1;on1;on1;on1;on1;on1;on1;on1;on1;on1;on1;on1;on1;on1;on1;'
                rule(0) 4
                rule(1) 16
                """);
        Run.check(4, "what a refused text told doesn't count", """
                type 'lag1;lag1;lag1;lag1;lag1;'
                text() -30
                type 'lag1;lag1;lag1;lag1;'
                text() 4
                """);
    }

    private static void fullTape() {
        Run.check(4, "160 blanks", """
                160 times feed(32)
                text() 0
                """);
        Run.check(4, "a line at the end of 160 bytes", """
                155 times feed(32)
                type 'on 7;'
                text() 1
                stroke(0) 17
                """);
        Run.check(4, "the fault is the last byte", """
                159 times feed(32)
                feed(33)
                text() -169
                fault() 1
                """);
        Run.check(4, "the fault is the end", """
                157 times feed(32)
                type 'on7'
                text() -170
                fault() 2
                """);
        Run.check(4, "one name of 160 letters", """
                160 times feed(97)
                text() -10
                fault() 2
                """);
        Run.check(4, "one number of 160 figures", """
                160 times feed(48)
                text() -10
                fault() 1
                """);
        Run.check(4, "160 stops", """
                160 times feed(59)
                text() -10
                fault() 2
                """);
        Run.check(4, "what a longer text left behind isn't read", """
                160 times feed(97)
                text() -10
                type 'on 1'
                text() -14
                fault() 2
                """);
    }

    private static void takenInPlaceOfWhatThereWas() {
        Run.check(4, "all is told anew", MUCH + """
                type 'stick 4;'
                text() 1
                rule(0) 1
                rule(1) 0
                rule(2) 0
                rule(3) 200000
                rule(4) 0
                arm(0,0) 2
                arm(0,1) 4
                arm(0,2) 200000
                arm(0,3) 0
                arm(0,4) 1
                count(0) 0
                count(1) 0
                back(0) STATE
                back(1) STATE
                count(3) 2
                """);
        Run.check(4, "both images are gone", """
                keep(0) 0
                keep(1) 0
                text() 0
                count(1) 0
                keep(0) 0
                keep(1) 0
                """);
    }

    private static void fault() {
        Run.check(5, "0 ahead of any text", """
                fault() 0
                type '!'
                fault() 0
                """);
        Run.check(5, "the latest text alone", """
                type '!'
                text() -10
                fault() 1
                type 'o'
                fault() 1
                text() -10
                fault() 2
                type 'on 10'
                text() -13
                fault() 3
                feed(32) 1
                end(0) 1
                fault() 3
                type 'lag1;lag1;lag1;lag1;lag'
                text() -30
                fault() 5
                text() 0
                fault() 0
                """);
        Run.check(5, "0 behind a text that is taken", """
                type '!'
                text() -10
                tell 'on 1;'
                fault() 0
                """);
    }

    private static void rule() {
        String setup = "tell 'plain 2;on 9;back 9;'\nsteps(1)";
        // The hand is at 9, the arm at 7.
        Run.bounds(6, setup, "rule(#)", 0, 1, 5, 1);
        Run.bounds(6, "", "rule(#)", 0, 0, 5, -4);
        Run.check(6, "most of each", """
                4 times hang(0,0)
                16 times add(18)
                99 times steps(100)
                steps(99)
                rule(0) 4
                rule(1) 16
                rule(2) 9999
                rule(3) 289991
                rule(5) 19
                """);
        Run.check(6, "the hand as far back", """
                add(0)
                99 times steps(100)
                steps(99)
                rule(3) 110009
                rule(5) 1
                """);
        Run.check(6, "error without arms, on either side", """
                pull(18) 0
                rule(4) 0
                2 times pull(0)
                rule(4) 0
                """);
        Run.check(6, "error without sign", """
                hang(0,9)
                pull(18) 9
                rule(4) 9
                pull(0) 0
                rule(4) 0
                pull(0) 9
                rule(4) 9
                """);
        Run.check(6, "four arms with most play: the last is as far off as the first had to be drawn", """
                hang(3,9)
                alter(0,2,9)
                hang(3,9)
                alter(1,2,9)
                hang(3,9)
                alter(2,2,9)
                hang(3,9)
                alter(3,2,9)
                19 times pull(10)
                rule(4) 19
                arm(0,2) 200000
                pull(10)
                rule(4) 20
                arm(0,2) 200002
                """);
        Run.check(6, "the stroke whose turn it is comes round", """
                tell 'on 1;on 2;back 3;'
                rule(5) 11
                steps(1)
                rule(5) 12
                steps(1)
                rule(5) 7
                steps(1)
                rule(5) 11
                """);
        Run.check(6, "the last of sixteen, then the first", """
                15 times add(9)
                add(18)
                steps(15)
                rule(5) 19
                steps(1)
                rule(5) 10
                """);
        Run.check(6, "no stroke any more", """
                tell 'on 1;'
                steps(1)
                drop(0)
                rule(5) NONE
                """);
    }

    private static void arm() {
        String setup = "tell 'worn 9;lag 0;on 9;on 9;back 9;'\nalter(0,2,9)\nsteps(2)";
        // The hand is at 18, just within the first one's play.
        Run.bounds(7, setup, "arm(#,0)", 0, 3, 1, 1);
        Run.bounds(7, setup, "arm(0,#)", 0, 3, 5, 18);
        Run.bounds(7, "4 times hang(2,7)", "arm(#,1)", 0, 7, 3, 7);
        Run.check(7, "no arm", """
                arm(0,0) BAD
                arm(0,5) BAD
                arm(-1,0) BAD
                """);
        Run.check(7, "no arm any more", """
                hang(0,0)
                cut(0)
                arm(0,0) BAD
                """);
        Run.check(7, "play, least and most, by kind", """
                hang(3,0)
                arm(0,5) 0
                alter(0,1,9)
                arm(0,5) 9
                alter(0,2,9)
                arm(0,5) 18
                alter(0,0,2)
                arm(0,5) 9
                alter(0,0,1)
                arm(0,5) 9
                alter(0,0,0)
                arm(0,5) 9
                """);
        Run.check(7, "its way: none, on, back", """
                hang(0,0)
                arm(0,4) 1
                pull(10)
                arm(0,4) 2
                pull(8)
                arm(0,4) 0
                pull(9)
                arm(0,4) 0
                """);
    }

    private static void stroke() {
        Run.bounds(8, "add(0)\nadd(9)\nadd(18)", "stroke(#)", 0, 1, 2, 19);
        Run.bounds(8, "add(0)", "stroke(#)", 0, 1, 0, 1);
        Run.bounds(8, "add(18)\n14 times add(9)\nadd(0)", "stroke(#)", 0, 19, 15, 1);
        Run.check(8, "no stroke", """
                stroke(0) BAD
                stroke(-1) BAD
                """);
        Run.check(8, "no stroke any more", """
                add(18)
                drop(0)
                stroke(0) BAD
                """);
    }
}
