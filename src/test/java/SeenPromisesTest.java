/** Promises 28 to 33: where it was, by a seed. */
public final class SeenPromisesTest {
    public static void main(String[] args) {
        see();
        forget();
        kinds();
        slacks();
        seenFromNowOn();
        ask();
        drift();
        changeNothing();
        Checks.finish();
    }

    private static void see() {
        SlackArms x = Checks.told("plain 2;on 5;");
        Checks.due("28: see(41, 0, 200000)", x.see(41, 0, 200000), -1);
        Checks.due("28: see(-1, 0, 200000)", x.see(-1, 0, 200000), -1);
        Checks.due("28: see(0, 1, 200000)", x.see(0, 1, 200000), -1);
        Checks.due("28: see(0, -1, 200000)", x.see(0, -1, 200000), -1);
        Checks.due("28: see(0, 0, 99999)", x.see(0, 0, 99999), -1);
        Checks.due("28: see(0, 0, 300001)", x.see(0, 0, 300001), -1);
        Checks.due("28: see(0, 0, 100000)", x.see(0, 0, 100000), 1);
        Checks.due("28: see(40, 0, 300000)", x.see(40, 0, 300000), 2);
        for (int i = 3; i <= 6; i++) {
            Checks.due("28: the same once more", x.see(0, 0, 200000), i);
        }
        Checks.due("28: the seventh", x.see(0, 0, 200000), SlackArms.FULL);
        Checks.due("28: the seventh, which is BAD", x.see(41, 0, 200000), SlackArms.BAD);
        Checks.due("28: six", x.count(0), 6);
        Checks.due("28: six are looked at", x.kinds(0), 0);
        x.forget(0);
        for (int i = 0; i < 5; i++) {
            x.see(0, 0, 200000);
        }
        x.see(1, 0, 200002);
        Checks.due("28: the sixth tells", x.kinds(0), 2);
    }

    private static void forget() {
        SlackArms x = Checks.told("plain 2;on 5;");
        Checks.due("29: forget(0)", x.forget(0), 0);
        Checks.due("29: forget(1)", x.forget(1), -1);
        x.see(1, 0, 200003);
        x.see(1, 0, 200009);
        Checks.due("29: both can't be", x.slacks(0), 0);
        Checks.due("29: forget(3)", x.forget(3), -1);
        Checks.due("29: forget(-1)", x.forget(-1), -1);
        Checks.due("29: forget(2)", x.forget(2), 2);
        Checks.due("29: forget(1)", x.forget(1), 2);
        Checks.due("29: the first is left", x.slacks(0), 1 << 2);
        Checks.due("29: one is", x.count(0), 1);
    }

    private static void kinds() {
        SlackArms x = Checks.told("plain 2;lag 0;on 5;");
        Checks.due("30: nothing seen", x.kinds(0), 15);
        x.see(1, 0, 200003);
        Checks.due("30: not a lag one", x.kinds(0), 13);
        Checks.due("30: of the other one, any", x.kinds(1), 15);
        x.see(1, 1, 200003);
        Checks.due("30: now the other one, as it is a lag one, can't be", x.kinds(0), 0);
        Checks.due("30: not a lag one either", x.kinds(1), 13);
        x.see(0, 0, 200001);
        Checks.due("30: nor was it there", x.kinds(1), 0);
        Checks.due("30: kinds(2)", x.kinds(2), -1);
        Checks.due("30: kinds(-1)", x.kinds(-1), -1);
        SlackArms worn = Checks.told("plain 1;on 5;back 5;");
        worn.alter(0, 2, 2);
        worn.see(1, 0, 200002);
        Checks.due("30: worn by its turns", worn.kinds(0), 8);
        SlackArms gone = Checks.told("plain 2;plain 0;on 5;");
        gone.see(1, 1, 200003);
        Checks.due("30: so it is", gone.kinds(0), 13);
        gone.cut(1);
        Checks.due("30: never so of an arm that is gone", gone.kinds(0), 0);
        Checks.due("31: nor by any slack", gone.slacks(0), 0);
        gone.hang(0, 0);
        Checks.due("30: so again, when it is there again", gone.kinds(0), 13);
    }

    private static void slacks() {
        SlackArms x = Checks.told("plain 2;on 5;back 4;");
        Checks.due("31: nothing seen", x.slacks(0), 1023);
        x.see(1, 0, 200000);
        Checks.due("31: it didn't move", x.slacks(0), 0b1111100000);
        x.see(3, 0, 200001);
        Checks.due("31: but then by 1", x.slacks(0), 1 << 5);
        x.forget(0);
        // Behind two steps: by slack 1, 2, 3, 2, 1, then 0.
        x.see(2, 0, 200002);
        Checks.due("31: 1 or 3", x.slacks(0), 0b1010);
        x.see(40, 0, x.ahead(0, 40));
        Checks.due("31: 40 steps ahead, as it is", x.slacks(0), 0);
        x.alter(0, 1, 3);
        x.forget(1);
        x.see(40, 0, x.ahead(0, 40));
        Checks.due("31: 40 steps ahead, 1 and 3 are at 21", x.slacks(0), 0b1010);
        x.see(39, 0, 200021);
        Checks.due("31: 39 steps ahead, 1 is at 23", x.slacks(0), 0b1000);
        Checks.due("31: slacks(1)", x.slacks(1), -1);
        Checks.due("31: slacks(-1)", x.slacks(-1), -1);
        SlackArms y = Checks.told("plain 2;plain 3;on 9;");
        y.see(1, 1, 200004);
        Checks.due("31: of the first, by the second", y.slacks(0), 1 << 2);
        Checks.due("31: of the second", y.slacks(1), 1 << 3);
    }

    private static void seenFromNowOn() {
        SlackArms x = Checks.told("plain 2;on 5;");
        x.see(1, 0, 200008);
        Checks.due("28: not behind one from the start", x.slacks(0), 0);
        x.steps(1);
        Checks.due("28: but behind one from here", x.slacks(0), 1 << 2);
        x.keep(0);
        x.steps(1);
        Checks.due("28: it is there now, to stay by much slack", x.slacks(0), 0b1110000000);
        x.back(0);
        Checks.due("28: what is seen is no part of an image", x.slacks(0), 1 << 2);
    }

    private static void ask() {
        SlackArms x = Checks.told("plain 2;on 5;back 4;");
        // The hand comes to 9 behind nine steps: by then every slack shows another place.
        Checks.due("32: ask(0, 0)", x.ask(0, 0), 9);
        Checks.due("32: ask(0, 1)", x.ask(0, 1), 1);
        x.see(1, 0, 200000);
        Checks.due("32: of 5 to 9", x.ask(0, 0), 9);
        x.see(5, 0, 200000);
        Checks.due("32: of 7, 8, 9", x.slacks(0), 0b1110000000);
        Checks.due("32: each by itself", x.ask(0, 1), 1);
        x.see(9, 0, 200000);
        Checks.due("32: one is left", x.slacks(0), 1 << 9);
        Checks.due("32: no fewer than now", x.ask(0, 0), SlackArms.NONE);
        Checks.due("32: no fewer than now", x.ask(0, 1), SlackArms.NONE);
        x.see(0, 0, 200001);
        Checks.due("32: none is left", x.ask(0, 0), SlackArms.NONE);
        SlackArms y = Checks.told("plain 2;on 5;");
        Checks.due("32: behind two all is clear", y.ask(0, 0), 2);
        Checks.due("32: and one is left", y.ask(0, 1), 1);
        // Never farther than 5: 5 to 9 always stay alike.
        SlackArms z = Checks.told("plain 2;on 5;back 5;");
        Checks.due("32: at the worst", z.ask(0, 1), 5);
        Checks.due("32: the first", z.ask(0, 0), 1);
        SlackArms still = Checks.told("plain 2;on 0;");
        Checks.due("32: nothing moves", still.ask(0, 0), SlackArms.NONE);
        // The last arm is looked at: it follows only from 9 on.
        SlackArms last = Checks.told("plain 0;plain 9;on 9;");
        Checks.due("32: the last arm, of the first's slack", last.ask(0, 0), 2);
        Checks.due("32: the last arm, how many", last.ask(0, 1), 1);
        SlackArms apart = Checks.told("plain 2;on 5;back 4;");
        apart.see(2, 0, 200002);
        Checks.due("32: of 1 and 3", apart.ask(0, 0), 1);
        Checks.due("32: of 1 and 3, how many", apart.ask(0, 1), 1);
        apart.see(1, 0, 200004);
        Checks.due("32: of 1 alone", apart.ask(0, 0), SlackArms.NONE);
        SlackArms zero = Checks.told("plain 0;on 5;");
        zero.see(1, 0, 200005);
        Checks.due("32: of 0 alone", zero.ask(0, 1), SlackArms.NONE);
        // As z, but from 9: 5 to 9 all stay there.
        SlackArms off = Checks.told("on 5;back 5;");
        off.pull(18);
        off.hang(0, 2);
        Checks.due("32: at the worst, from elsewhere", off.ask(0, 1), 5);
        Checks.due("32: ask(1, 0) of z", z.ask(1, 0), -1);
        Checks.due("32: ask(-1, 0)", z.ask(-1, 0), -1);
        Checks.due("32: ask(0, 2)", z.ask(0, 2), -1);
        Checks.due("32: ask(0, -1)", z.ask(0, -1), -1);
        // In each round of ten the hand goes 1 on at last: behind 40 it is at 4, and 4 to 9 stay alike.
        SlackArms late = Checks.told("plain 9;" + "on 0;".repeat(9) + "on 1;");
        Checks.due("32: as late as may be", late.ask(0, 0), 40);
        Checks.due("32: as late as may be, how many", late.ask(0, 1), 6);
        SlackArms later = Checks.told("plain 9;");
        for (int i = 0; i < 14; i++) {
            later.add(9);
        }
        later.set(13, 10);
        // Rounds of 14: behind 28 the hand is at 2, behind 42 at 3, which is too late.
        Checks.due("32: no later than 40", later.ask(0, 0), 28);
        Checks.due("32: no later than 40, how many", later.ask(0, 1), 8);
    }

    private static void drift() {
        SlackArms x = new SlackArms();
        Checks.due("33: no arms", x.drift(1, 1, 0), SlackArms.STATE);
        Checks.due("33: BAD ahead of STATE", x.drift(1, 0, 0), SlackArms.BAD);
        x.hang(0, 0);
        x.add(18);
        // By seed 1: -5, -8, -4, 7, -4, -6. By -3: 2, -8, 6, 9, 0, -1.
        Checks.due("33: no play, no error", x.drift(1, 6, 0), 0);
        Checks.due("33: 34 in all", x.drift(1, 6, 1), 34);
        Checks.due("33: the first alone", x.drift(1, 1, 1), 5);
        Checks.due("33: of -3, four", x.drift(-3, 4, 1), 25);
        x.alter(0, 1, 3);
        // -5: to -2; -13: to -10; -17: to -14; -10: to -13; -14: stays; -20: to -17.
        Checks.due("33: error behind 4", x.drift(1, 4, 0), 3);
        Checks.due("33: error behind 5", x.drift(1, 5, 0), 1);
        Checks.due("33: moves behind 6", x.drift(1, 6, 1), 14 + 1 + 4);
        x.pull(18);
        // From 9, the arm at 6: 4 and -4, -8: to 6, -1, -5.
        Checks.due("33: from where it is", x.drift(1, 1, 0), 2);
        Checks.due("33: from where it is, on", x.drift(1, 2, 1), 7);
        Checks.due("33: n 0", x.drift(1, 0, 0), -1);
        Checks.due("33: n 201", x.drift(1, 201, 0), -1);
        Checks.due("33: n -1", x.drift(1, -1, 0), -1);
        Checks.due("33: what 2", x.drift(1, 1, 2), -1);
        Checks.due("33: what -1", x.drift(1, 1, -1), -1);
        Checks.due("33: the top bit says nothing", x.drift(Integer.MIN_VALUE, 200, 1), x.drift(0, 200, 1));
    }

    private static void changeNothing() {
        SlackArms x = Checks.told("worn 1;lag 2;stick 0;on 7;back 6;on 2;");
        x.steps(4);
        x.see(3, 1, 200002);
        String before = Checks.state(x);
        x.kinds(0);
        x.slacks(1);
        x.ask(0, 0);
        x.drift(5, 50, 0);
        Checks.holds("what is told changes nothing", before.equals(Checks.state(x)));
    }
}
