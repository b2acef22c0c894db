/** Promises 5 to 13: counter, ball, send, beat, set, carry, day, undo, judged. */
final class HandTest {
    private static final Due DUE = new Due();

    public static void main(String[] args) {
        counterAndBall();
        sendAndBeat();
        rowByNumbers();
        fallIsSettledAtTheDesk();
        pit();
        setAndCarry();
        dayWears();
        law();
        undo();
        judged();
        DUE.end();
    }

    private static void counterAndBall() {
        CashBalls x = Due.opened(Due.DRAPER);
        DUE.is("place", x.counter(3, 0), 12);
        DUE.is("gap", x.counter(2, 1), 7);
        DUE.is("basket", x.counter(2, 2), 4);
        DUE.is("no such what", x.counter(0, 3), -1);
        DUE.is("no such what", x.counter(0, -1), -1);
        DUE.is("no such counter", x.counter(4, 0), -1);
        DUE.is("no such counter", x.counter(-1, 0), -1);
        for (int i = 0; i < 4; i++) {
            DUE.is("kind", x.ball(i, 0), i);
            DUE.is("home", x.ball(i, 2), i);
            DUE.is("rests at", x.ball(i, 3), i);
            DUE.is("rests", x.ball(i, 4), 0);
            DUE.is("not sent", x.ball(i, 5), 0);
        }
        DUE.is("size", x.ball(3, 1), 12);
        DUE.is("no such what", x.ball(0, 6), -2);
        DUE.is("no such what", x.ball(0, -1), -2);
        DUE.is("no such ball", x.ball(4, 0), -2);
        DUE.is("no such ball", x.ball(-1, 0), -2);
        DUE.is("no such ball", x.ball(Integer.MIN_VALUE, 0), -2);
    }

    private static void sendAndBeat() {
        CashBalls x = Due.opened("counter a at 1 gap 9;counter b at 2 gap 20;ball p plain size 5 home a;"
            + "ball q cork size 15 home b;desk 3;");
        DUE.is("send(q)", x.send(1), 1);
        DUE.is("send(q) again", x.send(1), -1);
        DUE.is("send(2)", x.send(2), -1);
        DUE.is("send(-1)", x.send(-1), -1);
        DUE.is("OUT", x.ball(1, 4), 1);
        DUE.is("does not rest", x.ball(1, 3), -1);
        DUE.is("basket is empty", x.counter(1, 2), 0);
        DUE.is("bits OUT", x.count(6), 2);
        // cork: 4 beats out, 3 at the desk, 4 back
        int[] phases = {1, 1, 1, 2, 2, 2, 3, 3, 3, 3, 0};
        for (int i = 0; i < phases.length; i++) {
            DUE.is("beat " + i, x.beat(), i == 10 ? 2 : 0);
            DUE.is("phase behind beat " + i, x.ball(1, 4), phases[i]);
            DUE.is("the beat", x.count(3), i + 1);
            DUE.is("in the row", x.count(5), phases[i] == 2 ? 1 : 0);
            DUE.is("BACK", x.count(7), phases[i] == 3 ? 2 : 0);
        }
        DUE.is("rests at", x.ball(1, 3), 1);
        DUE.is("sent once", x.ball(1, 5), 1);
        DUE.is("a beat of rest", x.beat(), 0);
        DUE.is("send again", x.send(1), 1);
        DUE.is("sent twice", x.ball(1, 5), 2);
    }

    private static void rowByNumbers() {
        CashBalls x = Due.opened("counter far at 2 gap 20;counter near at 1 gap 4;ball a cork size 2 home near;"
            + "ball b plain size 9 home far;ball c plain size 3 home near;desk 1;");
        x.send(2);
        x.beat();
        DUE.is("c is in the row", x.row(0), 2);
        x.send(1);
        x.send(0);
        // by the next beat c leaves; b and a come together by the one behind it
        x.beat();
        DUE.is("row is empty", x.row(0), -1);
        DUE.is("c is BACK", x.count(7), 4);
        DUE.is("c rests", x.beat(), 4);
        DUE.is("a is ahead", x.row(0), 0);
        DUE.is("b is behind", x.row(1), 1);
        DUE.is("row(2)", x.row(2), -1);
        DUE.is("row(-1)", x.row(-1), -1);
        DUE.is("beat", x.beat(), 0);
        DUE.is("b is first", x.row(0), 1);
        DUE.is("a is BACK", x.count(7), 1);
        DUE.is("beat", x.beat(), 0);
        DUE.is("both are BACK", x.count(7), 3);
        DUE.is("a rests", x.beat(), 1);
        DUE.is("b rests", x.beat(), 2);
    }

    private static void fallIsSettledAtTheDesk() {
        CashBalls x = Due.opened("counter a at 1 gap 5;counter b at 3 gap 9;ball p plain size 4 home a;desk 1;");
        x.send(0);
        x.beat();
        x.set(0, 3);
        DUE.is("leaves the desk", x.beat(), 0);
        x.set(0, 5);
        DUE.is("1 of 3", x.beat(), 0);
        DUE.is("2 of 3", x.beat(), 0);
        DUE.is("3 of 3", x.beat(), 1);
        DUE.is("it fell at b", x.ball(0, 3), 1);
        DUE.is("ASTRAY", x.count(8), 1);
        DUE.is("in b's basket", x.counter(1, 2), 1);
    }

    private static void pit() {
        CashBalls x = Due.opened("counter a at 4 gap 5;counter b at 2 gap 1;ball p cork size 6 home a;desk 1;");
        x.send(0);
        // 8 out, 1 at the desk, 2 * 5 back to the PIT behind place 4
        DUE.is("beats till it is in the PIT", x.day(), 19);
        DUE.is("in the PIT", x.ball(0, 3), 6);
        DUE.is("it rests", x.ball(0, 4), 0);
        DUE.is("can't be sent", x.send(0), -1);
        DUE.is("ASTRAY", x.count(8), 1);
        DUE.is("carried home", x.carry(0, 0), 6);
        DUE.is("not ASTRAY", x.count(8), 0);
        DUE.is("can be sent", x.send(0), 0);
    }

    private static void setAndCarry() {
        CashBalls x = Due.opened(Due.DRAPER);
        DUE.is("set", x.set(1, 60), 9);
        DUE.is("set", x.set(1, 0), 60);
        DUE.is("set the same", x.set(1, 0), 0);
        DUE.is("gap", x.counter(1, 1), 0);
        DUE.is("set 61", x.set(1, 61), -1);
        DUE.is("set -1", x.set(1, -1), -1);
        DUE.is("set of no counter", x.set(4, 1), -1);
        DUE.is("set of no counter", x.set(-1, 1), -1);
        DUE.is("three can be undone", x.count(12), 3);
        DUE.is("carry to where it is", x.carry(0, 0), -1);
        DUE.is("carry to no counter", x.carry(0, 4), -1);
        DUE.is("carry to the PIT", x.carry(0, 6), -1);
        DUE.is("carry of no ball", x.carry(4, 0), -1);
        DUE.is("carry", x.carry(0, 3), 0);
        DUE.is("two in a basket", x.counter(3, 2), 9);
        DUE.is("ASTRAY", x.count(8), 1);
        DUE.is("carried is not sent", x.ball(0, 5), 0);
        x.send(0);
        DUE.is("carry of one that is OUT", x.carry(0, 0), -1);
        DUE.is("OUT from there", x.back(0), 12 + 2 + 3);
        DUE.is("five can be undone", x.count(12), 5);
    }

    private static void dayWears() {
        CashBalls x = Due.opened(Due.DRAPER);
        x.send(0);
        x.beat();
        DUE.is("a day's beats", x.day(), 7);
        DUE.is("the day", x.count(2), 1);
        DUE.is("the beat", x.count(3), 0);
        DUE.is("damp", x.count(4), 6);
        DUE.is("sent this day", x.ball(0, 5), 0);
        int[] first = {3, 7, 4, 11};
        for (int i = 0; i < 4; i++) {
            DUE.is("size on day 1", x.ball(i, 1), first[i]);
        }
        DUE.is("a day at rest", x.day(), 0);
        int[] second = {5, 8, 8, 13};
        for (int i = 0; i < 4; i++) {
            DUE.is("size on day 2", x.ball(i, 1), second[i]);
        }
        DUE.is("damp again", x.count(4), 0);
    }

    private static int loss(String law, String kind, int size) {
        CashBalls x = Due.opened("counter a at 1 gap 60;ball b " + kind + " size " + size + " home a;damp 7;wears "
            + law + ";");
        x.send(0);
        x.day();
        return size - x.ball(0, 1);
    }

    private static void law(String law, int want) {
        DUE.is("wears " + law, loss(law, "plain", 30), want);
    }

    private static void law() {
        DUE.is("no law", Due.opened("counter a at 1 gap 60;ball b oak size 9 home a;").later(0, 60), 9);
        law("2+3*2", 8);
        law("9-2-3", 4);
        law("2*3-1", 5);
        law("(9-2)*1", 7);
        law("1<2", 1);
        law("2<2", 0);
        law("2=2", 1);
        law("1+1=2", 1);
        law("1 or 0 and 0", 0);
        law("0 and 0 or 1", 1);
        law("5 and 3", 1);
        law("5 and 0", 0);
        law("0 or 7", 1);
        law("0 or 0", 0);
        law("not 0", 1);
        law("not 5", 0);
        law("not 1<2", 1);
        law("not(1<2)", 0);
        law("not 0+4", 5);
        law("not not 7", 1);
        law("wet", 7);
        law("runs+3", 4);
        law("width-26", 4);
        law("date+2", 2);
        law("0-3", -3);
        law("9", 9);
        law("10", 9);
        law("0-10", -9);
        law("9999*9999*9999<0", 9999 * 9999 * 9999 < 0 ? 1 : 0);
        law("9999*9999*30<0", 9999 * 9999 * 30 < 0 ? 1 : 0);
        DUE.is("oak loses 1", loss("5", "oak", 30), 1);
        DUE.is("oak gains 1", loss("0-5", "oak", 30), -1);
        DUE.is("oak keeps", loss("0", "oak", 30), 0);
        DUE.is("willow loses twice", loss("3", "willow", 30), 6);
        DUE.is("willow twice of 9", loss("50", "willow", 30), 18);
        DUE.is("willow gains twice", loss("0-50", "willow", 30), -18);
        DUE.is("cork as plain", loss("4", "cork", 30), 4);
        DUE.is("1 at least", loss("9", "plain", 5), 4);
        DUE.is("60 at most", loss("0-9", "plain", 58), -2);
    }

    private static void undo() {
        CashBalls x = Due.opened(Due.DRAPER);
        x.send(0);
        x.set(1, 3);
        x.carry(2, 0);
        x.beat();
        x.day();
        DUE.is("five", x.count(12), 5);
        x.send(9);
        x.set(9, 9);
        x.carry(9, 9);
        DUE.is("refused calls don't count", x.count(12), 5);
        DUE.is("undo day", x.undo(), true);
        DUE.is("day", x.count(2), 0);
        DUE.is("beat", x.count(3), 1);
        DUE.is("size", x.ball(0, 1), 4);
        DUE.is("phase", x.ball(0, 4), 1);
        DUE.is("sent", x.ball(0, 5), 1);
        DUE.is("back", x.back(0), 7);
        DUE.is("undo beat", x.undo(), true);
        DUE.is("beat", x.count(3), 0);
        DUE.is("back", x.back(0), 8);
        DUE.is("undo carry", x.undo(), true);
        DUE.is("basket", x.ball(2, 3), 2);
        DUE.is("undo set", x.undo(), true);
        DUE.is("gap", x.counter(1, 1), 9);
        DUE.is("undo send", x.undo(), true);
        DUE.is("rests", x.ball(0, 3), 0);
        DUE.is("not sent", x.ball(0, 5), 0);
        DUE.is("no more", x.undo(), false);
        for (int i = 0; i < 20; i++) {
            x.set(0, 20 + i);
        }
        DUE.is("sixteen at most", x.count(12), 16);
        for (int i = 0; i < 16; i++) {
            DUE.is("undo " + i, x.undo(), true);
            DUE.is("gap ahead", x.counter(0, 1), 38 - i);
        }
        DUE.is("no more than sixteen", x.undo(), false);
        DUE.is("gap", x.counter(0, 1), 23);
        Due.run(x, "beat;");
        x.see(0, 0, true);
        x.beat();
        x.undo();
        DUE.is("the run is not undone", x.count(10), 1);
        DUE.is("what is seen is not undone", x.count(11), 1);
    }

    private static void judged(String run, int refused, int astray, int many) {
        CashBalls x = Due.opened(Due.DRAPER);
        Due.run(x, run);
        // what was done by hand is no matter: the run is judged from the beginning
        x.set(0, 0);
        x.carry(1, 0);
        x.day();
        DUE.is("judged(0) of " + run, x.judged(0), refused);
        DUE.is("judged(1) of " + run, x.judged(1), astray);
        DUE.is("judged(2) of " + run, x.judged(2), many);
        DUE.is("judging does nothing", x.count(2), 1);
        DUE.is("judging does nothing", x.ball(1, 3), 0);
    }

    private static void judged() {
        judged("", -1, -1, 0);
        judged("beat;beat;day;", -1, -1, 0);
        judged("send bs;send bs;day;", 1, -1, 0);
        judged("carry bs silk;", 0, -1, 0);
        judged("carry bs hose;carry bh silk;carry bs silk;", -1, 0, 1);
        judged("send bl;day;carry bs silk;", 2, 1, 1);
        judged("send bl;day;carry bl lace;", -1, 1, 0);
        judged("set silk 1;set hose 1;set lace 1;set glove 1;send bs;send bl;day;send bs;", 7, 6, 2);
        judged("send bs;beat;beat;beat;beat;beat;set silk 0;beat;beat;beat;send bs;day;", -1, 11, 1);
        CashBalls served = Due.opened("counter a at 1 gap 9;counter b at 3 gap 20;ball p plain size 5 home a;desk 3;");
        Due.run(served, "send p;beat;beat;beat;beat;set a 0;beat;");
        served.send(0);
        served.beat();
        served.beat();
        DUE.is("rest, while it is served", served.rest(), 3);
        DUE.is("none is served at the beginning", served.judged(1), -1);
        Due.shop(served, "counter a at 1 gap 9;counter b at 3 gap 20;ball p plain size 5 home a;desk 3;");
        DUE.is("nor in a new shop", served.trip(0), 5);
        CashBalls x = new CashBalls();
        DUE.is("judged(3)", x.judged(3), -2);
        DUE.is("judged(-1)", x.judged(-1), -2);
    }
}
