/** Promises 1 to 8: a new object, the text, what there is. */
public final class TextPromisesTest {
    public static void main(String[] args) {
        newObject();
        feed();
        end();
        textTaken();
        textRefused();
        textOfBytesCutOff();
        textReplacesAll();
        rule();
        arm();
        stroke();
        Checks.finish();
    }

    private static void newObject() {
        SlackArms x = new SlackArms();
        int[] rules = {0, 0, 0, 200000, 0, SlackArms.NONE};
        int[] counts = {0, 0, 0, SlackArms.NONE, 0, 0};
        for (int what = 0; what <= 5; what++) {
            Checks.due("1: rule(" + what + ")", x.rule(what), rules[what]);
            Checks.due("1: count(" + what + ")", x.count(what), counts[what]);
        }
        for (int k = 0; k <= 3; k++) {
            Checks.due("1: lay on nothing", x.lay(k, 0, 0), -11);
        }
        Checks.due("1: arm", x.arm(0, 0), -1);
        Checks.due("1: stroke", x.stroke(0), -1);
        Checks.due("1: fault", x.fault(), 0);
        Checks.due("1: torn", x.torn(), 0);
        Checks.due("1: back(0)", x.back(0), SlackArms.STATE);
        Checks.due("1: back(1)", x.back(1), SlackArms.STATE);
    }

    private static void feed() {
        SlackArms x = new SlackArms();
        Checks.due("2: feed(-1)", x.feed(-1), -1);
        Checks.due("2: feed(128)", x.feed(128), -1);
        Checks.due("2: feed(MIN)", x.feed(Integer.MIN_VALUE), -1);
        Checks.due("2: feed(MAX)", x.feed(Integer.MAX_VALUE), -1);
        Checks.due("2: nothing came", x.count(2), 0);
        Checks.due("2: feed(0)", x.feed(0), 1);
        Checks.due("2: feed(127)", x.feed(127), 2);
        for (int i = 3; i <= 160; i++) {
            Checks.due("2: feed, byte " + i, x.feed(32), i);
        }
        Checks.due("2: the 161st", x.feed(32), SlackArms.FULL);
        Checks.due("2: the 161st, which is BAD", x.feed(128), SlackArms.BAD);
        Checks.due("2: as many as before", x.count(2), 160);
    }

    private static void end() {
        SlackArms x = new SlackArms();
        Checks.due("3: end(0), nothing there", x.end(0), 0);
        Checks.due("3: end(1), nothing there", x.end(1), -1);
        Checks.feed(x, "on 1;on 2;");
        Checks.due("3: end(11)", x.end(11), -1);
        Checks.due("3: end(-1)", x.end(-1), -1);
        Checks.due("3: end(10)", x.end(10), 10);
        Checks.due("3: end(5)", x.end(5), 10);
        Checks.due("3: five are left", x.count(2), 5);
        Checks.due("3: the first ones", x.text(), 1);
        Checks.due("3: that is on 1", x.stroke(0), 11);
        Checks.feed(x, "on 1;");
        x.end(4);
        Checks.due("3: bytes come behind those kept", x.feed(';'), 5);
        Checks.due("3: and are read", x.text(), 1);
    }

    private static void textTaken() {
        SlackArms x = new SlackArms();
        Checks.due("4: an empty text", x.text(), 0);
        Checks.due("4: blanks alone", Checks.text(x, "    "), 0);
        Checks.due("4: no blanks", Checks.text(x, "worn9;on0;back09;"), 3);
        Checks.due("4: arms", x.rule(0), 1);
        Checks.due("4: kind", x.arm(0, 0), 3);
        Checks.due("4: slack", x.arm(0, 1), 9);
        Checks.due("4: on", x.stroke(0), 10);
        Checks.due("4: back", x.stroke(1), 1);
        Checks.due("4: many blanks", Checks.text(x, "  lag   1 ;  stick 02;plain 00 ;  "), 3);
        int[][] due = {{1, 1}, {2, 2}, {0, 0}};
        for (int a = 0; a < 3; a++) {
            Checks.due("4: kind of " + a, x.arm(a, 0), due[a][0]);
            Checks.due("4: slack of " + a, x.arm(a, 1), due[a][1]);
        }
        Checks.due("4: the most of both", Checks.text(x, "lag1;".repeat(4) + "on1;".repeat(16)), 20);
        Checks.due("4: arms", x.rule(0), 4);
        Checks.due("4: strokes", x.rule(1), 16);
        Checks.due("4: the tape is empty then", x.count(2), 0);
        Checks.due("5: no fault", x.fault(), 0);
    }

    private static void refused(String text, int place, int fault) {
        SlackArms x = Checks.told("plain 3;on 4;");
        x.steps(1);
        x.see(0, 0, 200000);
        x.keep(0);
        Checks.feed(x, text);
        x.feed(' ');
        x.end(text.length());
        Checks.due("4: text '" + text + "'", x.text(), -10 - place);
        Checks.due("5: fault of '" + text + "'", x.fault(), fault);
        Checks.due("5: asked again", x.fault(), fault);
        Checks.due("4: the tape is empty behind a fault", x.count(2), 0);
        Checks.due("4: arms stay", x.rule(0), 1);
        Checks.due("4: strokes stay", x.rule(1), 1);
        Checks.due("4: step stays", x.rule(2), 1);
        Checks.due("4: the hand stays", x.rule(3), 200004);
        Checks.due("4: the arm stays", x.arm(0, 2), 200001);
        Checks.due("4: what is seen stays", x.count(0), 1);
        Checks.due("4: the image stays", x.count(1), 1);
        Checks.due("4: the next text is taken", Checks.text(x, "on 1;"), 1);
        Checks.due("5: and has no fault", x.fault(), 0);
    }

    private static void textRefused() {
        refused("!", 0, 1);
        refused("on 1;\t", 5, 1);
        refused("on 1; A", 6, 1);
        refused("Plain 1;", 0, 1);
        refused("on -1;", 3, 1);
        refused("on 123;", 3, 1);
        refused("on 000;", 3, 1);
        refused("123;", 0, 1);
        refused("on 1 123", 5, 1);
        refused("on `", 3, 1);
        refused("on {", 3, 1);
        refused("on /", 3, 1);
        refused("on :", 3, 1);
        refused("on 1 \0", 5, 1);
        refused("rod 1;", 0, 2);
        refused("onn 1;", 0, 2);
        refused("in 1;", 0, 2);
        refused("wag 1;", 0, 2);
        refused("bacl 1;", 0, 2);
        refused("o 1;", 0, 2);
        refused("plai 1;", 0, 2);
        refused("plains 1;", 0, 2);
        refused("on1on 1;", 3, 2);
        refused("on on 1;", 3, 2);
        refused("on;", 2, 2);
        refused("on 1 2;", 5, 2);
        refused("on 1 on", 5, 2);
        refused(";", 0, 2);
        refused("on 1;;", 5, 2);
        refused("7;", 0, 2);
        refused("on", 2, 2);
        refused("on   ", 5, 2);
        refused("on 1", 4, 2);
        refused("on 1  ", 6, 2);
        refused("plain 10;", 6, 3);
        refused("worn 99", 5, 3);
        refused("on 10 !", 3, 3);
        refused("back 10;", 5, 3);
        refused("lag1;".repeat(4) + " lag 1;", 21, 5);
        refused("lag1;".repeat(4) + "stick !", 20, 5);
        refused("lag1;".repeat(4) + "worn 10;", 20, 5);
        refused("on1;".repeat(16) + "lag 1;on1;", 70, 5);
        refused("on1;".repeat(8) + "back1;".repeat(8) + "back", 80, 5);
        refused("lag1;".repeat(4) + "rod", 20, 2);
        refused("on 1;back 2;onn;!", 12, 2);
    }

    private static void textOfBytesCutOff() {
        SlackArms x = new SlackArms();
        Checks.feed(x, "on 12;");
        x.end(4);
        Checks.due("4: what end() took away is not read", x.text(), -14);
        Checks.due("5: the end", x.fault(), 2);
        fullTape("one name", "a".repeat(160), -10, 2);
        fullTape("one number", "1".repeat(160), -10, 1);
        fullTape("blanks", " ".repeat(160), 0, 0);
        fullTape("a line at its end", " ".repeat(155) + "on 1;", 1, 0);
        fullTape("a line without its end", " ".repeat(157) + "on1", -170, 2);
    }

    private static void fullTape(String what, String text, int due, int fault) {
        SlackArms x = new SlackArms();
        Checks.due("4: a full tape of " + what, Checks.text(x, text), due);
        Checks.due("5: a full tape of " + what, x.fault(), fault);
    }

    private static void textReplacesAll() {
        SlackArms x = Checks.told("worn 1;lag 2;on 4;back 4;");
        x.steps(7);
        x.see(0, 0, 200000);
        x.keep(0);
        x.keep(1);
        x.sheet(0, 1, 5);
        Checks.due("4: text", Checks.text(x, "plain 6;"), 1);
        Checks.due("4: arms", x.rule(0), 1);
        Checks.due("4: strokes", x.rule(1), 0);
        Checks.due("4: step", x.rule(2), 0);
        Checks.due("4: the hand", x.rule(3), 200000);
        Checks.due("4: where the arm is", x.arm(0, 2), 200000);
        Checks.due("4: turns", x.arm(0, 3), 0);
        Checks.due("4: way", x.arm(0, 4), 1);
        Checks.due("4: nothing is seen", x.count(0), 0);
        Checks.due("4: images are gone", x.count(1), 0);
        Checks.due("4: none to go back to", x.back(0), SlackArms.STATE);
        Checks.due("4: none to go back to", x.back(1), SlackArms.STATE);
        Checks.due("4: a sheet stays", x.count(3), 5);
        x.add(18);
        x.runs(5, 0);
        Checks.due("4: an empty text tells all too", x.text(), 0);
        Checks.due("4: what was looked at ahead is nowhere in it", x.rule(3) + x.rule(2), 200000);
        Checks.due("4: no arms", x.rule(0), 0);
    }

    private static void rule() {
        SlackArms x = Checks.told("plain 2;lag 1;on 9;back 3;");
        // Behind 9 on: arm 0 at 7, arm 1 is pulled 6, moves 5.
        x.steps(1);
        int[] due = {2, 2, 1, 200009, 4, 7};
        for (int what = 0; what <= 5; what++) {
            Checks.due("6: rule(" + what + ")", x.rule(what), due[what]);
        }
        Checks.due("6: rule(-1)", x.rule(-1), -1);
        Checks.due("6: rule(6)", x.rule(6), -1);
        x.steps(1);
        Checks.due("6: the first stroke's turn again", x.rule(5), 19);
        x.drop(0);
        Checks.due("6: no stroke", x.rule(5), SlackArms.NONE);
        x.cut(0);
        Checks.due("6: no error without arms", x.rule(4), 0);
        SlackArms y = Checks.told("on 3;on 4;on 5;");
        y.steps(2);
        y.drop(2);
        Checks.due("6: what step leaves by strokes", y.rule(5), 13);
        SlackArms z = Checks.told("plain 2;back 5;");
        z.steps(1);
        Checks.due("6: the hand below 0", z.rule(3), 199995);
        Checks.due("6: error without sign", z.rule(4), 2);
    }

    private static void arm() {
        SlackArms x = Checks.told("worn 1;on 6;back 6;");
        // 6 on: at 5; 6 back: off by 5, play 1: to 1, a turn, play 2.
        x.steps(2);
        int[] due = {3, 1, 200001, 1, 0, 2};
        for (int what = 0; what <= 5; what++) {
            Checks.due("7: arm(0, " + what + ")", x.arm(0, what), due[what]);
        }
        Checks.due("7: arm(0, 6)", x.arm(0, 6), -1);
        Checks.due("7: arm(0, -1)", x.arm(0, -1), -1);
        Checks.due("7: arm(1, 0)", x.arm(1, 0), -1);
        Checks.due("7: arm(-1, 0)", x.arm(-1, 0), -1);
        Checks.due("7: arm(MAX, 0)", x.arm(Integer.MAX_VALUE, 0), -1);
        Checks.due("7: arm(MIN, 0)", x.arm(Integer.MIN_VALUE, 0), -1);
        for (int kind = 0; kind <= 2; kind++) {
            x.alter(0, 0, kind);
            Checks.due("7: play of a kind without wear, " + kind, x.arm(0, 5), 1);
        }
        x.pull(18);
        Checks.due("7: way on", x.arm(0, 4), 2);
    }

    private static void stroke() {
        SlackArms x = Checks.told("on 9;back 9;on 0;");
        Checks.due("8: stroke(0)", x.stroke(0), 19);
        Checks.due("8: stroke(1)", x.stroke(1), 1);
        Checks.due("8: stroke(2)", x.stroke(2), 10);
        Checks.due("8: stroke(3)", x.stroke(3), -1);
        Checks.due("8: stroke(-1)", x.stroke(-1), -1);
        Checks.due("8: stroke(MAX)", x.stroke(Integer.MAX_VALUE), -1);
        Checks.due("8: stroke(MIN)", x.stroke(Integer.MIN_VALUE), -1);
    }
}
