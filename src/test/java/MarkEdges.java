/** Promises 41 and 42: mark, count; and how many calls an object is used for. */
final class MarkEdges {
    private final Edges edges;

    private MarkEdges(Edges edges) {
        this.edges = edges;
    }

    static void hold(Edges edges) {
        MarkEdges m = new MarkEdges(edges);
        m.fourMarks();
        m.noneSuch();
        m.nothingIsOnIt();
        m.hold();
        m.holdMost();
        m.nothingCanBeUndone();
        m.laidAnew();
        m.count();
        m.countOthers();
        m.mostOfAll();
        m.manyCalls();
    }

    private void fourMarks() {
        edges.of(41, "mark", "MARKS 0 to 3 hold how it is");
        CashBalls x = Due.opened(Edges.six());
        for (int mark = 0; mark <= 3; mark++) {
            x.set(mark, 7);
            edges.is("laid " + mark, x.mark(mark, false), true);
        }
        for (int mark = 3; mark >= 0; mark--) {
            edges.is("back to " + mark, x.mark(mark, true), true);
            for (int counter = 0; counter < 4; counter++) {
                edges.is("gap of " + counter, x.counter(counter, 1), counter <= mark ? 7 : 10 * counter + 10);
            }
        }
        edges.is("and forth to 3", x.mark(3, true), true);
        edges.is("gap of 3", x.counter(3, 1), 7);
    }

    private void noneSuch() {
        edges.of(41, "mark", "true; false: none such, nothing is on it (back).");
        int[] others = {-2, -1, 4, 5};
        for (int mark : others) {
            edges.refused("mark(" + mark + ", false)", Edges::busy, x -> x.mark(mark, false) ? 1 : 0, 0);
            edges.refused("mark(" + mark + ", true)", Edges::busy, x -> x.mark(mark, true) ? 1 : 0, 0);
        }
        for (int far : Edges.FAR) {
            edges.refused("mark(" + far + ", false)", Edges::busy, x -> x.mark(far, false) ? 1 : 0, 0);
            edges.refused("mark(" + far + ", true)", Edges::busy, x -> x.mark(far, true) ? 1 : 0, 0);
        }
    }

    private void nothingIsOnIt() {
        edges.of(41, "mark", "nothing is on it (back)");
        int[] others = {0, 3};
        for (int mark : others) {
            edges.refused("back to " + mark, Edges::busy, x -> x.mark(mark, true) ? 1 : 0, 0);
            edges.is("laid on " + mark, Edges.lived(Edges::busy).mark(mark, false), true);
        }
        for (int mark = 0; mark <= 3; mark++) {
            int m = mark;
            edges.refused("back to " + mark + " of a new one", x -> { }, x -> x.mark(m, true) ? 1 : 0, 0);
        }
        CashBalls x = Edges.lived(Edges::busy);
        edges.is("back to 1", x.mark(1, true), true);
        edges.is("back to 2", x.mark(2, true), true);
        edges.is("back to 2 again", x.mark(2, true), true);
    }

    private void hold() {
        edges.of(41, "mark", "hold how it is, the RUN, what is SEEN");
        CashBalls x = Edges.lived(Edges::busy);
        CashBalls y = Edges.lived(Edges::busy);
        x.mark(0, false);
        y.mark(0, false);
        x.day();
        x.day();
        x.carry(3, 1);
        x.set(0, 0);
        x.set(2, 60);
        x.send(1);
        x.beat();
        x.see(2, 30, true);
        Due.run(x, "day;");
        Due.feed(x, "desk 5");
        edges.is("back", x.mark(0, true), true);
        edges.is("back, where nothing was done", y.mark(0, true), true);
        edges.is("the TAPE is not on it", x.count(13), 6);
        edges.is("all is as it was", Look.at(x).equals(Look.at(y)), true);
        CashBalls z = Due.opened(Edges.six() + "wears 1;");
        z.mark(0, false);
        z.see(5, 0, true);
        z.see(2, 30, true);
        Due.run(z, "carry ba cb;set ca 9;");
        z.mark(1, false);
        edges.is("nothing SEEN, back to 0", z.mark(0, true) ? z.count(11) : -1, 0);
        edges.is("no lines", z.count(10), 0);
        z.see(0, 0, false);
        z.see(1, 0, false);
        Due.run(z, "beat;send bb;send bb;");
        z.mark(0, false);
        edges.is("what was SEEN, back to 1", z.mark(1, true) ? z.who() : -1, 32);
        edges.is("two lines", z.count(10), 2);
        edges.is("the lines of then", z.judged(1), 0);
        edges.is("the lines of then", z.judged(0), -1);
        edges.is("what was SEEN, back to 0", z.mark(0, true) ? z.who() : -1, 60);
        edges.is("three lines", z.count(10), 3);
        edges.is("the lines of then", z.judged(0), 2);
        CashBalls empty = new CashBalls();
        empty.mark(0, false);
        empty.beat();
        edges.is("of nothing", empty.mark(0, true), true);
        edges.is("beat", empty.count(3), 0);
    }

    /** The last SEEN and the last line are the ones by which the full rows can be told from shorter ones. */
    private void holdMost() {
        edges.of(41, "mark", "what is SEEN");
        CashBalls x = Due.opened(Edges.six());
        x.mark(0, false);
        for (int i = 0; i < 7; i++) {
            x.see(0, 0, false);
        }
        x.see(1, 30, false);
        Due.run(x, "beat;".repeat(38) + "send ba;send ba;");
        x.mark(3, false);
        edges.is("back to 0", x.mark(0, true), true);
        edges.is("nothing SEEN", x.count(11), 0);
        edges.is("no lines", x.count(10), 0);
        for (int i = 0; i < 8; i++) {
            x.see(5, 0, true);
        }
        Due.run(x, "day;".repeat(40));
        edges.is("only bf", x.who(), 32);
        edges.is("forth to 3", x.mark(3, true), true);
        edges.is("8 SEEN", x.count(11), 8);
        edges.is("all but ba and bb", x.who(), 60);
        edges.is("a ninth", x.see(1, 0, false), false);
        edges.is("40 lines", x.count(10), 40);
        edges.is("the last line can't be", x.judged(0), 39);
    }

    private void nothingCanBeUndone() {
        edges.of(41, "mark", "nothing can be undone when one is gone back to");
        CashBalls x = new CashBalls();
        x.beat();
        x.mark(0, false);
        edges.is("one can still be undone", x.count(12), 1);
        x.beat();
        edges.is("two can", x.count(12), 2);
        x.mark(0, true);
        edges.is("none can", x.count(12), 0);
        edges.is("undo()", x.undo(), false);
        edges.is("beat", x.count(3), 1);
        x.beat();
        edges.is("undo() of what comes then", x.undo(), true);
        edges.is("no more", x.undo(), false);
        CashBalls y = Edges.lived(Edges::busy);
        y.mark(0, true);
        edges.is("gone back to none", y.count(12), 10);
    }

    private void laidAnew() {
        edges.of(41, "mark", "A MARK is laid (back: gone back to)");
        CashBalls x = new CashBalls();
        for (int i = 0; i < 3; i++) {
            edges.is("laid", x.mark(2, false), true);
            x.beat();
        }
        edges.is("back", x.mark(2, true), true);
        edges.is("as it was last", x.count(3), 2);
        edges.is("back again", x.mark(2, true), true);
        edges.is("as it was last", x.count(3), 2);
        edges.is("3 others have nothing", x.mark(1, true) || x.mark(0, true) || x.mark(3, true), false);
    }

    private void count() {
        edges.of(42, "count", "What 0: COUNTERS, 1: BALLS, 2: the day, 3: the beat, 4: the day's damp, 5: BALLS in the ROW, "
            + "how many, 6: OUT, as bits, 7: BACK, as bits, 8: ASTRAY, as bits, 9: how long the desk takes, 10: lines of "
            + "the RUN, 11: SEEN, 12: what can be undone, 13: signs on the TAPE.");
        int[] want = {3, 5, 1, 4, 6, 1, 4, 16, 8, 3, 4, 1, 10, 6};
        for (int what = 0; what <= 13; what++) {
            int w = what;
            edges.asks("count(" + w + ")", Edges::busy, x -> x.count(w), want[w]);
        }
    }

    private void countOthers() {
        edges.of(42, "count", "13: signs on the TAPE. NONE for another what.");
        int[] others = {-2, -1, 14, 15};
        for (int what : others) {
            edges.asks("count(" + what + ")", Edges::busy, x -> x.count(what), -1);
        }
        for (int far : Edges.FAR) {
            edges.asks("count(" + far + ")", Edges::busy, x -> x.count(far), -1);
        }
        edges.is("count(-1) of nothing", new CashBalls().count(-1), -1);
        edges.is("count(14) of nothing", new CashBalls().count(14), -1);
        edges.is("count(13) of nothing", new CashBalls().count(13), 0);
    }

    private void mostOfAll() {
        edges.of(42, "count", "What 0: COUNTERS, 1: BALLS");
        CashBalls x = Due.opened(Edges.six() + "desk 9;damp 9;");
        Due.run(x, "beat;".repeat(40));
        for (int ball = 0; ball < 6; ball++) {
            x.carry(ball, 0);
            x.send(ball);
        }
        edges.is("all six OUT", x.count(6), 63);
        x.beat();
        edges.is("all six in the ROW", x.count(5), 6);
        edges.is("none OUT", x.count(6), 0);
        for (int i = 0; i < 20; i++) {
            x.see(0, 0, true);
            x.beat();
        }
        // the desk takes nine beats each: the first left it by beat 10, the second by 19, and rests by 21
        int[] most = {6, 6, 0, 21, 9, 4, 0, 0, 0, 9, 40, 8, 16, 0};
        for (int what = 0; what <= 13; what++) {
            edges.is("count(" + what + ")", x.count(what), most[what]);
        }
        CashBalls back = Due.opened(Edges.six().replace("at 1 ", "at 20 ").replace("plain size 10", "cork size 10")
            + "desk 1;");
        edges.is("0 is last along the rail", back.counter(0, 0), 20);
        for (int ball = 1; ball < 6; ball++) {
            back.carry(ball, 1);
        }
        for (int ball = 1; ball < 6; ball++) {
            back.send(ball);
        }
        edges.is("five OUT", back.count(6), 62);
        for (int ball = 1; ball < 6; ball++) {
            back.set(ball, 0);
        }
        back.set(0, 60);
        for (int i = 0; i < 7; i++) {
            back.beat();
        }
        edges.is("five BACK", back.count(7), 62);
        back.day();
        edges.is("five ASTRAY", back.count(8), 62);
    }

    private void manyCalls() {
        edges.of(42, "count", "An object is used for at most 512 calls after it has been made");
        CashBalls beats = new CashBalls();
        for (int i = 1; i <= 511; i++) {
            beats.beat();
        }
        edges.is("the 512th call behind 511 beats", beats.count(3), 511);
        CashBalls days = new CashBalls();
        for (int i = 1; i <= 511; i++) {
            days.day();
        }
        edges.is("the 512th call behind 511 days", days.count(2), 511);
        CashBalls fed = new CashBalls();
        for (int i = 1; i <= 511; i++) {
            fed.feed(-1, -1, 'a');
        }
        edges.is("the 512th call behind 511 feeds", fed.feed(0, 0, 'a'), 512);
        CashBalls grown = new CashBalls();
        Due.shop(grown, "counter a at 1 gap 60;ball p plain size 1 home a;wears 0-(date=505);");
        for (int i = 1; i <= 505; i++) {
            grown.day();
        }
        edges.is("one of the last calls", grown.later(0, 1), 2);
    }
}
