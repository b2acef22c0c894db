/** Promises 41 and 42: mark, count. */
final class MarkTest {
    private static final Due DUE = new Due();

    public static void main(String[] args) {
        marks();
        seenOnMarks();
        counts();
        DUE.end();
    }

    private static void marks() {
        CashBalls x = Due.opened(Due.DRAPER);
        DUE.is("nothing is on it", x.mark(0, true), false);
        DUE.is("mark 4", x.mark(4, false), false);
        DUE.is("mark -1", x.mark(-1, false), false);
        DUE.is("mark 4 back", x.mark(4, true), false);
        DUE.is("mark -1 back", x.mark(-1, true), false);
        x.send(0);
        x.beat();
        Due.run(x, "beat;beat;");
        x.see(0, 1, true);
        DUE.is("lay 3", x.mark(3, false), true);
        DUE.is("laying leaves what can be undone", x.count(12), 2);
        x.day();
        x.set(0, 0);
        x.carry(1, 3);
        Due.run(x, "day;");
        x.see(1, 1, true);
        DUE.is("lay 0", x.mark(0, false), true);
        DUE.is("3 others", x.mark(2, true), false);
        DUE.is("back to 3", x.mark(3, true), true);
        DUE.is("day", x.count(2), 0);
        DUE.is("beat", x.count(3), 1);
        DUE.is("gap", x.counter(0, 1), 5);
        DUE.is("basket", x.ball(1, 3), 1);
        DUE.is("OUT", x.ball(0, 4), 1);
        DUE.is("sent", x.ball(0, 5), 1);
        DUE.is("back", x.back(0), 7);
        DUE.is("size", x.ball(0, 1), 4);
        DUE.is("the run", x.count(10), 2);
        DUE.is("seen", x.count(11), 1);
        DUE.is("nothing can be undone", x.undo(), false);
        DUE.is("nothing can be undone", x.count(12), 0);
        DUE.is("to 0", x.mark(0, true), true);
        DUE.is("day", x.count(2), 1);
        DUE.is("gap", x.counter(0, 1), 0);
        DUE.is("basket", x.ball(1, 3), 3);
        DUE.is("the run", x.count(10), 1);
        DUE.is("seen", x.count(11), 2);
        DUE.is("a mark stays", x.mark(3, true), true);
        x.beat();
        DUE.is("laid anew", x.mark(3, false), true);
        x.beat();
        x.mark(3, true);
        DUE.is("beat", x.count(3), 2);
        x.feed(0x2020L, 0, 0);
        x.mark(0, true);
        DUE.is("the tape is not on it", x.count(13), 2);
    }

    private static void seenOnMarks() {
        CashBalls x = Due.opened(Due.DRAPER);
        Due.run(x, "beat;carry bs hose;");
        x.mark(0, false);
        x.see(1, 0, true);
        x.mark(1, false);
        DUE.is("who fell at hose", x.who(), 6);
        x.mark(0, true);
        DUE.is("nothing seen", x.who(), 15);
        x.see(0, 2, false);
        Due.run(x, "carry bs lace;carry bs lace;");
        DUE.is("who did not fall at silk", x.who(), 14);
        DUE.is("a line that can't be", x.judged(0), 1);
        x.mark(1, true);
        DUE.is("as it was seen then", x.who(), 6);
        DUE.is("the run of then", x.judged(0), -1);
        DUE.is("the run of then", x.judged(1), 1);
    }

    private static void counts() {
        CashBalls x = Due.opened("counter a at 1 gap 5;counter b at 2 gap 9;ball p plain size 7 home a;"
            + "ball q cork size 3 home a;ball r plain size 9 home b;desk 7;damp 3 8;");
        DUE.is("counters", x.count(0), 2);
        DUE.is("balls", x.count(1), 3);
        DUE.is("damp", x.count(4), 3);
        DUE.is("desk", x.count(9), 7);
        x.send(0);
        x.send(1);
        x.send(2);
        DUE.is("OUT", x.count(6), 7);
        x.beat();
        DUE.is("in the row", x.count(5), 1);
        DUE.is("OUT", x.count(6), 6);
        for (int i = 0; i < 7; i++) {
            x.beat();
        }
        DUE.is("BACK", x.count(7), 1);
        DUE.is("in the row", x.count(5), 2);
        DUE.is("OUT", x.count(6), 0);
        DUE.is("none ASTRAY on its way", x.count(8), 0);
        DUE.is("beat", x.count(3), 8);
        x.beat();
        x.beat();
        DUE.is("ASTRAY", x.count(8), 1);
        x.day();
        DUE.is("day", x.count(2), 1);
        DUE.is("damp", x.count(4), 8);
        x.see(0, 0, false);
        Due.run(x, "day;beat;day;");
        x.feed(0x2020202020202020L, 0, 0);
        DUE.is("lines", x.count(10), 3);
        DUE.is("seen", x.count(11), 1);
        DUE.is("to undo", x.count(12), 14);
        DUE.is("signs", x.count(13), 8);
        int[] wrong = {-1, 14, 99, Integer.MIN_VALUE, Integer.MAX_VALUE};
        for (int what : wrong) {
            DUE.is("count(" + what + ")", x.count(what), -1);
        }
    }
}
