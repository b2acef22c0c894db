/** Promises 5 to 7, 9, 10, 12 and 13: counter, ball, send, set, carry, undo, judged. */
final class HandEdges {
    private static final String TWO = "counter a at 1 gap 5;counter b at 2 gap 9;ball p plain size 5 home a;"
        + "ball q plain size 9 home b;desk 1;";

    private final Edges edges;

    private HandEdges(Edges edges) {
        this.edges = edges;
    }

    static void hold(Edges edges) {
        HandEdges h = new HandEdges(edges);
        h.counter();
        h.counterOthers();
        h.ball();
        h.ballOthers();
        h.whereItRests();
        h.phases();
        h.sentThisDay();
        h.send();
        h.sendCantBe();
        h.sendAsSoonAsItRests();
        h.set();
        h.setOthers();
        h.soWide();
        h.carry();
        h.carryCantBe();
        h.carryOutOfThePit();
        h.undo();
        h.lastSixteen();
        h.allOfThese();
        h.astray();
        h.judged();
        h.lineThatCantBe();
        h.alwaysCan();
        h.firstAstray();
        h.fromTheBeginning();
        h.judgedOthers();
    }

    private void counter() {
        edges.of(5, "counter", "Of a COUNTER, what 0: its place, 1: its gap, 2: BALLS in its basket, as bits");
        CashBalls x = Due.opened(Edges.six());
        for (int counter = 0; counter < 6; counter++) {
            edges.is("place of " + counter, x.counter(counter, 0), counter + 1);
            edges.is("gap of " + counter, x.counter(counter, 1), 10 * counter + 10);
            edges.is("basket of " + counter, x.counter(counter, 2), 1 << counter);
        }
        for (int ball = 1; ball < 6; ball++) {
            x.carry(ball, 0);
        }
        edges.is("all six in one basket", x.counter(0, 2), 63);
        edges.is("none in another one", x.counter(5, 2), 0);
        x.send(5);
        edges.is("one that is OUT is in none", x.counter(0, 2), 31);
        x.set(5, 0);
        edges.is("a gap that was set", x.counter(5, 1), 0);
    }

    private void counterOthers() {
        edges.of(5, "counter", "2: BALLS in its basket, as bits; NONE: others.");
        int[] others = {-1, 3, 6};
        for (int counter : others) {
            for (int what = 0; what <= 2; what++) {
                int w = what;
                edges.asks("counter(" + counter + ", " + w + ")", Edges::busy, x -> x.counter(counter, w), -1);
            }
        }
        int[] whats = {-1, 3, 4};
        for (int what : whats) {
            edges.asks("counter(0, " + what + ")", Edges::busy, x -> x.counter(0, what), -1);
            edges.asks("counter(2, " + what + ")", Edges::busy, x -> x.counter(2, what), -1);
        }
        for (int far : Edges.FAR) {
            edges.asks("counter(" + far + ", 0)", Edges::busy, x -> x.counter(far, 0), -1);
            edges.asks("counter(0, " + far + ")", Edges::busy, x -> x.counter(0, far), -1);
        }
        edges.is("counter(6, 0) of six", Due.opened(Edges.six()).counter(6, 0), -1);
        edges.is("counter(5, 0) of six", Due.opened(Edges.six()).counter(5, 0), 6);
        edges.is("the PIT is no COUNTER", Edges.lived(Edges::busy).counter(6, 2), -1);
    }

    private void ball() {
        edges.of(6, "ball", "Of a BALL, what 0: KIND (0 plain, 1 oak, 2 willow, 3 cork), 1: size, 2: HOME");
        CashBalls x = Edges.lived(Edges::busy);
        int[] kinds = {0, 1, 2, 3, 0};
        int[] homes = {0, 2, 1, 1, 0};
        // on day 0, dry: each lost 1, oak no more, willow twice, and the one that was SENT 1 more
        int[] sizes = {3, 7, 13, 28, 2};
        for (int ball = 0; ball < 5; ball++) {
            edges.is("KIND of " + ball, x.ball(ball, 0), kinds[ball]);
            edges.is("size of " + ball, x.ball(ball, 1), sizes[ball]);
            edges.is("HOME of " + ball, x.ball(ball, 2), homes[ball]);
        }
    }

    private void ballOthers() {
        edges.of(6, "ball", "5: how often it was SENT this day; -2: others.");
        int[] others = {-1, 5, 6};
        for (int ball : others) {
            for (int what = 0; what <= 5; what++) {
                int w = what;
                edges.asks("ball(" + ball + ", " + w + ")", Edges::busy, x -> x.ball(ball, w), -2);
            }
        }
        int[] whats = {-2, -1, 6, 7};
        for (int what : whats) {
            edges.asks("ball(0, " + what + ")", Edges::busy, x -> x.ball(0, what), -2);
            edges.asks("ball(4, " + what + ")", Edges::busy, x -> x.ball(4, what), -2);
        }
        for (int far : Edges.FAR) {
            edges.asks("ball(" + far + ", 0)", Edges::busy, x -> x.ball(far, 0), -2);
            edges.asks("ball(0, " + far + ")", Edges::busy, x -> x.ball(0, far), -2);
        }
        edges.is("ball(5, 1) of six", Due.opened(Edges.six()).ball(5, 1), 60);
        edges.is("ball(6, 1) of six", Due.opened(Edges.six()).ball(6, 1), -2);
    }

    private void whereItRests() {
        edges.of(6, "ball", "3: the COUNTER in whose basket it rests (6: the PIT, NONE: it does not rest)");
        CashBalls x = Edges.lived(Edges::busy);
        int[] where = {-1, 2, -1, 6, -1};
        for (int ball = 0; ball < 5; ball++) {
            edges.is("where " + ball + " rests", x.ball(ball, 3), where[ball]);
        }
        CashBalls six = Due.opened(Edges.six());
        for (int ball = 0; ball < 6; ball++) {
            edges.is("where " + ball + " of six rests", six.ball(ball, 3), ball);
        }
    }

    private void phases() {
        edges.of(6, "ball", "4: 0 it rests, 1 OUT, 2 in the ROW, 3 BACK");
        CashBalls x = Due.opened(TWO);
        int[] phases = {0, 1, 1, 2, 3, 3, 0};
        for (int beats = 0; beats < phases.length; beats++) {
            edges.is("phase of q behind " + (beats - 1) + " beats", x.ball(1, 4), phases[beats]);
            edges.is("phase of p", x.ball(0, 4), 0);
            if (beats == 0) {
                x.send(1);
            } else {
                x.beat();
            }
        }
        CashBalls busy = Edges.lived(Edges::busy);
        int[] all = {2, 0, 1, 0, 3};
        for (int ball = 0; ball < 5; ball++) {
            edges.is("phase of " + ball, busy.ball(ball, 4), all[ball]);
        }
    }

    private void sentThisDay() {
        edges.of(6, "ball", "5: how often it was SENT this day");
        CashBalls x = Due.opened(TWO);
        edges.is("not yet", x.ball(0, 5), 0);
        x.send(0);
        edges.is("once", x.ball(0, 5), 1);
        x.send(0);
        edges.is("once, as it can't be", x.ball(0, 5), 1);
        x.beat();
        x.beat();
        x.beat();
        x.send(0);
        edges.is("twice", x.ball(0, 5), 2);
        x.beat();
        x.beat();
        x.beat();
        x.carry(0, 1);
        edges.is("CARRIED is not SENT", x.ball(0, 5), 2);
        edges.is("the other one was not", x.ball(1, 5), 0);
        x.day();
        edges.is("not on this day", x.ball(0, 5), 0);
    }

    private void send() {
        edges.of(7, "send", "SEND: the COUNTER from which");
        for (int ball = 0; ball < 6; ball++) {
            CashBalls x = Due.opened(Edges.six());
            edges.is("send(" + ball + ")", x.send(ball), ball);
            edges.is("OUT", x.count(6), 1 << ball);
            edges.is("its basket", x.counter(ball, 2), 0);
            edges.is("one to undo", x.count(12), 1);
        }
        CashBalls x = Due.opened(Edges.six());
        x.carry(5, 0);
        edges.is("from where it is, not from HOME", x.send(5), 0);
        x.beat();
        edges.is("it was one place away", x.row(0), 5);
    }

    private void sendCantBe() {
        edges.of(7, "send", "SEND: the COUNTER from which; NONE: others, it can't be.");
        String[] why = {"in the ROW", "", "OUT", "in the PIT", "BACK"};
        for (int ball = 0; ball < 5; ball++) {
            int b = ball;
            if (ball != 1) {
                edges.refused("send of one " + why[ball], Edges::busy, x -> x.send(b), -1);
            }
        }
        int[] others = {-1, 5, 6};
        for (int ball : others) {
            edges.refused("send(" + ball + ")", Edges::busy, x -> x.send(ball), -1);
        }
        for (int far : Edges.FAR) {
            edges.refused("send(" + far + ")", Edges::busy, x -> x.send(far), -1);
        }
        edges.refused("send(6) of six", Edges.shop(Edges.six()), x -> x.send(6), -1);
        edges.refused("send(0) of none", x -> { }, x -> x.send(0), -1);
        edges.is("send of the one that rests", Edges.lived(Edges::busy).send(1), 2);
    }

    private void sendAsSoonAsItRests() {
        edges.of(7, "send", "SEND a BALL that rests in the basket of a COUNTER: it is OUT from there.");
        CashBalls x = Due.opened(TWO);
        x.send(0);
        int[] may = {-1, -1, -1, 0};
        for (int beats = 0; beats < 4; beats++) {
            edges.is("send behind " + beats + " beats", x.send(0), may[beats]);
            x.beat();
        }
        edges.is("OUT from there, at 1", x.row(0), 0);
        CashBalls y = Due.opened(TWO);
        y.set(0, 4);
        y.set(1, 4);
        y.send(0);
        y.day();
        edges.is("in the PIT", y.ball(0, 3), 6);
        edges.is("it can't be", y.send(0), -1);
        y.carry(0, 1);
        edges.is("out of the PIT it can", y.send(0), 1);
    }

    private void set() {
        edges.of(9, "set", "SET (0 to 60): the gap ahead");
        CashBalls x = Due.opened(TWO);
        edges.is("set(0, 0)", x.set(0, 0), 5);
        edges.is("gap", x.counter(0, 1), 0);
        edges.is("set(0, 60)", x.set(0, 60), 0);
        edges.is("gap", x.counter(0, 1), 60);
        edges.is("set(0, 60) again", x.set(0, 60), 60);
        edges.is("set(1, 1)", x.set(1, 1), 9);
        edges.is("set(1, 59)", x.set(1, 59), 1);
        edges.is("the other gap", x.counter(0, 1), 60);
        edges.is("five to undo, the one that changed nothing, too", x.count(12), 5);
        CashBalls six = Due.opened(Edges.six());
        edges.is("set(5, 0)", six.set(5, 0), 60);
    }

    private void setOthers() {
        edges.of(9, "set", "SET (0 to 60): the gap ahead; NONE: others.");
        int[] gaps = {-2, -1, 61, 62};
        for (int gap : gaps) {
            edges.refused("set(0, " + gap + ")", Edges::busy, x -> x.set(0, gap), -1);
            edges.refused("set(2, " + gap + ")", Edges::busy, x -> x.set(2, gap), -1);
        }
        int[] counters = {-1, 3, 6};
        for (int counter : counters) {
            edges.refused("set(" + counter + ", 0)", Edges::busy, x -> x.set(counter, 0), -1);
            edges.refused("set(" + counter + ", 60)", Edges::busy, x -> x.set(counter, 60), -1);
        }
        for (int far : Edges.FAR) {
            edges.refused("set(0, " + far + ")", Edges::busy, x -> x.set(0, far), -1);
            edges.refused("set(" + far + ", 1)", Edges::busy, x -> x.set(far, 1), -1);
        }
        edges.refused("set(6, 1) of six", Edges.shop(Edges.six()), x -> x.set(6, 1), -1);
        edges.refused("set(0, 1) of none", x -> { }, x -> x.set(0, 1), -1);
    }

    private void soWide() {
        edges.of(9, "set", "SET a COUNTER's gap: it is so wide.");
        CashBalls x = Due.opened(TWO);
        x.set(0, 8);
        edges.is("catches 8", x.catches(8), 0);
        edges.is("not 9", x.catches(9), 1);
        x.set(0, 0);
        edges.is("0 catches none", x.catches(1), 1);
        x.set(1, 60);
        edges.is("60 catches all", x.catches(60), 1);
    }

    private void carry() {
        edges.of(10, "carry", "CARRY: where it was (6: the PIT)");
        CashBalls x = Due.opened(Edges.six());
        edges.is("carry(0, 5)", x.carry(0, 5), 0);
        edges.is("carry(5, 0)", x.carry(5, 0), 5);
        edges.is("baskets", x.counter(0, 2), 32);
        edges.is("baskets", x.counter(5, 2), 1);
        edges.is("carry(0, 0)", x.carry(0, 0), 5);
        edges.is("three to undo", x.count(12), 3);
        CashBalls y = Edges.lived(Edges::busy);
        edges.is("out of the PIT", y.carry(3, 0), 6);
        edges.is("there it rests", y.ball(3, 3), 0);
    }

    private void carryCantBe() {
        edges.of(10, "carry", "CARRY: where it was (6: the PIT); NONE: others, it can't be.");
        edges.refused("to where it is", Edges::busy, x -> x.carry(1, 2), -1);
        edges.refused("of one in the ROW", Edges::busy, x -> x.carry(0, 1), -1);
        edges.refused("of one that is OUT", Edges::busy, x -> x.carry(2, 0), -1);
        edges.refused("of one that is OUT from there", Edges::busy, x -> x.carry(2, 1), -1);
        edges.refused("of one that is BACK", Edges::busy, x -> x.carry(4, 1), -1);
        edges.refused("of one that is BACK to there", Edges::busy, x -> x.carry(4, 0), -1);
        edges.refused("from the PIT to the PIT", Edges::busy, x -> x.carry(3, 6), -1);
        edges.refused("to the PIT", Edges::busy, x -> x.carry(1, 6), -1);
        int[] counters = {-1, 3, 5};
        for (int counter : counters) {
            edges.refused("carry(1, " + counter + ")", Edges::busy, x -> x.carry(1, counter), -1);
        }
        int[] balls = {-1, 5, 6};
        for (int ball : balls) {
            edges.refused("carry(" + ball + ", 0)", Edges::busy, x -> x.carry(ball, 0), -1);
        }
        for (int far : Edges.FAR) {
            edges.refused("carry(" + far + ", 0)", Edges::busy, x -> x.carry(far, 0), -1);
            edges.refused("carry(1, " + far + ")", Edges::busy, x -> x.carry(1, far), -1);
        }
        edges.refused("carry(0, 0) of none", x -> { }, x -> x.carry(0, 0), -1);
        edges.refused("carry(6, 0) of six", Edges.shop(Edges.six()), x -> x.carry(6, 0), -1);
        edges.refused("carry(0, 6) of six", Edges.shop(Edges.six()), x -> x.carry(0, 6), -1);
        edges.is("carry of the one that rests", Edges.lived(Edges::busy).carry(1, 0), 2);
    }

    private void carryOutOfThePit() {
        edges.of(10, "carry", "CARRY a BALL that rests (in the PIT, too) to the basket of a COUNTER where it is not.");
        for (int counter = 0; counter < 3; counter++) {
            CashBalls x = Edges.lived(Edges::busy);
            edges.is("to " + counter, x.carry(3, counter), 6);
            edges.is("there", x.ball(3, 3), counter);
            edges.is("in its basket", x.counter(counter, 2) >> 3 & 1, 1);
            edges.is("ASTRAY", x.count(8) >> 3, counter == 1 ? 0 : 1);
            edges.is("no more there", x.carry(3, counter), -1);
            edges.is("to another one", x.carry(3, (counter + 1) % 3), counter);
        }
    }

    private void undo() {
        edges.of(12, "undo", "UNDO: true; false: nothing can be.");
        CashBalls x = new CashBalls();
        edges.is("of a new object", x.undo(), false);
        x.beat();
        edges.is("of one", x.undo(), true);
        edges.is("of none", x.undo(), false);
        edges.refused("of none", Edges.shop(TWO), y -> y.undo() ? 1 : 0, 0);
        edges.refused("of none behind one", y -> {
            Edges.busy(y);
            for (int i = 0; i < 10; i++) {
                y.undo();
            }
        }, y -> y.undo() ? 1 : 0, 0);
        edges.refused("behind refused ones", y -> {
            Edges.shop(TWO).accept(y);
            y.send(2);
            y.set(0, 61);
            y.carry(0, 0);
        }, y -> y.undo() ? 1 : 0, 0);
    }

    private void lastSixteen() {
        edges.of(12, "undo", "UNDO: all of these, the last 16, one by one.");
        for (int done = 14; done <= 19; done++) {
            CashBalls x = new CashBalls();
            for (int i = 0; i < done; i++) {
                x.beat();
            }
            int can = Math.min(16, done);
            edges.is("of " + done + " can be undone", x.count(12), can);
            for (int i = 1; i <= can; i++) {
                edges.is("undo " + i + " of " + done, x.undo(), true);
                edges.is("beat", x.count(3), done - i);
                edges.is("left", x.count(12), can - i);
            }
            edges.is("one more of " + done, x.undo(), false);
            edges.is("beat", x.count(3), done - can);
        }
        CashBalls x = new CashBalls();
        for (int i = 0; i < 40; i++) {
            x.beat();
        }
        x.undo();
        x.undo();
        x.beat();
        edges.is("two undone, one done", x.count(12), 15);
        x.beat();
        x.beat();
        edges.is("sixteen again", x.count(12), 16);
        for (int i = 1; i <= 16; i++) {
            edges.is("undo", x.undo(), true);
        }
        edges.is("of forty and one", x.count(3), 25);
        edges.is("no more", x.undo(), false);
    }

    private void allOfThese() {
        edges.of(12, "undo", "UNDO: all of these");
        for (int deed = 0; deed < 5; deed++) {
            CashBalls done = Edges.lived(Edges::busy);
            done.undo();
            CashBalls undone = Edges.lived(Edges::busy);
            undone.undo();
            long answer = deed == 0 ? undone.send(1) : deed == 1 ? undone.beat() : deed == 2 ? undone.set(0, 1)
                : deed == 3 ? undone.carry(3, 0) : undone.day();
            edges.is("deed " + deed + " could be", answer >= 0, true);
            edges.is("undone", undone.undo(), true);
            edges.is("all is as ahead", Look.at(undone).equals(Look.at(done)), true);
        }
        CashBalls x = Due.opened(TWO);
        x.see(0, 1, true);
        x.mark(0, false);
        Due.run(x, "beat;");
        edges.is("what is SEEN, MARKS, a RUN are none of these", x.undo(), false);
    }

    private void astray() {
        edges.of(42, "count", "ASTRAY is a BALL that rests elsewhere than at HOME.");
        CashBalls x = Due.opened(TWO);
        edges.is("all at HOME", x.count(8), 0);
        x.carry(0, 1);
        edges.is("p elsewhere", x.count(8), 1);
        x.carry(1, 0);
        edges.is("both elsewhere", x.count(8), 3);
        x.send(0);
        edges.is("p does not rest", x.count(8), 2);
        x.carry(1, 1);
        edges.is("q at HOME", x.count(8), 0);
        CashBalls y = Edges.lived(Edges::busy);
        edges.is("one in the PIT", y.count(8), 8);
    }

    private void judged(String run, int refused, int astray, int many) {
        CashBalls x = Due.opened(TWO);
        edges.is("run() of " + run, Due.run(x, run), 0);
        edges.is("judged(0) of " + run, x.judged(0), refused);
        edges.is("judged(1) of " + run, x.judged(1), astray);
        edges.is("judged(2) of " + run, x.judged(2), many);
    }

    private void judged() {
        edges.of(13, "judged", "JUDGED, what 0, 1: lines (NONE: none), 2: how many");
        judged("", -1, -1, 0);
        judged("beat;", -1, -1, 0);
        judged("carry p a;", 0, -1, 0);
        judged("carry p b;", -1, 0, 1);
        judged("beat;".repeat(39) + "carry p a;", 39, -1, 0);
        judged("beat;".repeat(39) + "carry p b;", -1, 39, 1);
        judged("carry p b;carry q a;", -1, 0, 2);
        judged("carry p b;carry q a;carry p a;", -1, 0, 1);
        judged("carry p b;carry q a;carry p a;carry q b;", -1, 0, 0);
        edges.is("judged(0) of nothing", new CashBalls().judged(0), -1);
        edges.is("judged(1) of nothing", new CashBalls().judged(1), -1);
        edges.is("judged(2) of nothing", new CashBalls().judged(2), 0);
    }

    private void lineThatCantBe() {
        edges.of(13, "judged", "a line that can't be is left out");
        judged("send p;send p;", 1, -1, 0);
        judged("send p;beat;beat;send p;beat;send p;", 3, -1, 0);
        judged("send p;beat;beat;beat;send p;", -1, -1, 0);
        judged("send p;carry p b;", 1, -1, 0);
        judged("send p;carry p b;carry q a;send p;day;", 1, 2, 1);
        judged("set a 0;set b 0;send p;day;send p;", 4, 3, 1);
        judged("set a 0;set b 0;send p;day;carry p a;send p;beat;", -1, 3, 0);
    }

    private void alwaysCan() {
        edges.of(13, "judged", "beat, set, day always can");
        judged("set a 5;set a 5;set b 60;set b 0;", -1, -1, 0);
        judged("day;day;beat;beat;", -1, -1, 0);
        judged("send p;day;send q;set a 0;beat;day;", -1, -1, 0);
    }

    private void firstAstray() {
        edges.of(13, "judged", "the first one behind which a BALL is ASTRAY; how many are at last.");
        judged("set a 4;send p;beat;beat;beat;beat;", -1, 5, 1);
        judged("set a 4;send p;beat;beat;beat;", -1, -1, 0);
        judged("set a 4;send p;day;", -1, 2, 1);
        judged("set a 4;day;", -1, -1, 0);
        judged("carry p b;send p;", -1, 0, 0);
        judged("carry p b;send p;day;", -1, 0, 0);
    }

    private void fromTheBeginning() {
        edges.of(13, "judged", "JUDGED: the RUN from the beginning");
        int[] want = {-1, 3, 1};
        for (int what = 0; what <= 2; what++) {
            int w = what;
            edges.asks("judged(" + w + ") of a busy one", Edges::busy, x -> x.judged(w), want[w]);
        }
        CashBalls x = Due.opened(TWO);
        Due.run(x, "send p;beat;beat;beat;");
        x.set(0, 0);
        x.carry(0, 1);
        x.send(1);
        edges.is("the gaps as told", x.judged(1), -1);
        edges.is("the BALLS at HOME", x.judged(0), -1);
        edges.is("as often as it is asked", x.judged(0), -1);
        x.day();
        edges.is("day 0", x.judged(2), 0);
    }

    private void judgedOthers() {
        edges.of(13, "judged", "2: how many; -2: others.");
        int[] others = {-2, -1, 3, 4};
        for (int what : others) {
            edges.asks("judged(" + what + ")", Edges::busy, x -> x.judged(what), -2);
        }
        for (int far : Edges.FAR) {
            edges.asks("judged(" + far + ")", Edges::busy, x -> x.judged(far), -2);
        }
        edges.is("judged(3) of nothing", new CashBalls().judged(3), -2);
        edges.is("judged(-1) of nothing", new CashBalls().judged(-1), -2);
    }
}
