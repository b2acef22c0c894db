import java.util.function.Consumer;

/** Promises 8, 11 and 24 to 28: beat, day, back, trip, rest, row, last. */
final class BeatEdges {
    private final Edges edges;

    private BeatEdges(Edges edges) {
        this.edges = edges;
    }

    static void hold(Edges edges) {
        BeatEdges b = new BeatEdges(edges);
        b.restByIt();
        b.restsWhereItFell();
        b.served();
        b.asTheyAreThen();
        b.out();
        b.behindAllOthers();
        b.byTheirNumbers();
        b.byWhatWasAhead();
        b.nextBeat();
        b.cork();
        b.placeOfThePit();
        b.beatsTillAllRest();
        b.lossOfNine();
        b.oak();
        b.willow();
        b.leastAndMost();
        b.nextDay();
        b.back();
        b.backOthers();
        b.trip();
        b.tripCantBe();
        b.rest();
        b.row();
        b.rowNone();
        b.last();
        b.ofEqualOnesTheFirst();
        b.allRest();
    }

    private static String one(int place, String kind, int desk) {
        return "counter a at " + place + " gap 60;ball p " + kind + " size 30 home a;desk " + desk + ";";
    }

    private static void beats(CashBalls x, int many) {
        for (int i = 0; i < many; i++) {
            x.beat();
        }
    }

    private void restByIt() {
        edges.of(8, "beat", "BEAT: BALLS that rest by it, as bits.");
        edges.is("beat of nothing", new CashBalls().beat(), 0);
        CashBalls x = Due.opened(Edges.six());
        edges.is("beat, all at rest", x.beat(), 0);
        for (int ball = 0; ball < 6; ball++) {
            x.send(ball);
        }
        // ball i is in the row by beat i + 1; the desk takes two beats each: i leaves it by 2 * i + 3, and rests i + 1 on
        int rested = 0;
        for (int beat = 1; beat <= 20; beat++) {
            int bits = 0;
            for (int ball = 0; ball < 6; ball++) {
                bits |= 3 * ball + 4 == beat ? 1 << ball : 0;
            }
            edges.is("beat " + beat, x.beat(), bits);
            rested |= bits;
        }
        edges.is("all six", rested, 63);
        CashBalls y = Due.opened("counter a at 2 gap 10;counter b at 1 gap 1;ball p plain size 1 home b;"
            + "ball q plain size 2 home a;desk 1;");
        y.send(1);
        beats(y, 2);
        y.send(0);
        beats(y, 2);
        edges.is("two by one beat", y.beat(), 3);
    }

    private void restsWhereItFell() {
        edges.of(8, "beat", "each BALL on its way BACK has one beat less to go, and rests where it FELL if it has none");
        int[] places = {1, 2, 19, 20};
        for (int place : places) {
            CashBalls x = Due.opened(one(place, "plain", 1));
            x.send(0);
            beats(x, place + 1);
            for (int left = place; left > 0; left--) {
                edges.is("BACK, " + left + " to go from " + place, x.ball(0, 4), 3);
                edges.is("not yet", x.ball(0, 3), -1);
                edges.is("beat", x.beat(), left == 1 ? 1 : 0);
            }
            edges.is("rests", x.ball(0, 4), 0);
            edges.is("where it FELL", x.ball(0, 3), 0);
            edges.is("one more beat", x.beat(), 0);
        }
    }

    private void served() {
        edges.of(8, "beat", "the first one in the ROW is served for a beat, and is on its way BACK once it was for as many "
            + "as desk tells");
        for (int desk = 1; desk <= 9; desk++) {
            CashBalls x = Due.opened(one(1, "plain", desk) + "ball q plain size 30 home a;");
            x.send(0);
            x.send(1);
            x.beat();
            beats(x, desk - 1);
            edges.is("in the ROW still, of " + desk, x.row(0), 0);
            x.beat();
            edges.is("BACK by the last one, of " + desk, x.ball(0, 4), 3);
            edges.is("the next one is the first", x.row(0), 1);
            beats(x, desk - 1);
            edges.is("the next one is in the ROW still", x.row(0), 1);
            x.beat();
            edges.is("the next one is BACK", x.ball(1, 4), 3);
            edges.is("none is left", x.row(0), -1);
        }
    }

    private void asTheyAreThen() {
        edges.of(8, "beat", "to where it FALLS by its size and all gaps as they are then, for so many places");
        String shop = "counter a at 1 gap 5;counter b at 3 gap 9;ball p plain size 5 home a;desk 2;";
        Consumer<CashBalls> atTheDesk = x -> {
            Edges.shop(shop).accept(x);
            x.send(0);
            x.beat();
            x.beat();
        };
        CashBalls ahead = Edges.lived(atTheDesk);
        ahead.set(0, 4);
        ahead.beat();
        ahead.set(0, 5);
        edges.is("set ahead of the last beat at the desk, to b", ahead.back(0), 3);
        beats(ahead, 3);
        edges.is("at b", ahead.ball(0, 3), 1);
        CashBalls behind = Edges.lived(atTheDesk);
        behind.beat();
        behind.set(0, 4);
        edges.is("set behind it, to a", behind.back(0), 1);
        behind.beat();
        edges.is("at a", behind.ball(0, 3), 0);
        CashBalls pit = Edges.lived(atTheDesk);
        pit.set(0, 4);
        pit.set(1, 4);
        pit.beat();
        edges.is("to the PIT", pit.back(0), 4);
    }

    private void out() {
        edges.of(8, "beat", "each that is OUT has one beat less to go, and is in the ROW, behind all others, if it has none");
        int[] places = {1, 2, 19, 20};
        for (int place : places) {
            CashBalls x = Due.opened(one(place, "plain", 1));
            x.send(0);
            for (int left = place; left > 0; left--) {
                edges.is("OUT, " + left + " to go from " + place, x.count(6), 1);
                edges.is("not in the ROW", x.row(0), -1);
                x.beat();
            }
            edges.is("in the ROW", x.row(0), 0);
            edges.is("not OUT", x.count(6), 0);
        }
    }

    private void behindAllOthers() {
        edges.of(8, "beat", "is in the ROW, behind all others");
        CashBalls x = Due.opened(Edges.six() + "desk 9;");
        for (int ball = 5; ball >= 0; ball--) {
            x.carry(ball, (6 - ball) % 6);
        }
        // ball 0 is at place 1, ball 5 at 2, ball 4 at 3 .. ball 1 at 6
        for (int ball = 0; ball < 6; ball++) {
            x.send(ball);
        }
        int[] row = {0, 5, 4, 3, 2, 1};
        for (int many = 1; many <= 6; many++) {
            x.beat();
            edges.is("how many", x.count(5), many);
            for (int i = 0; i < 6; i++) {
                edges.is("row(" + i + ") behind " + many, x.row(i), i < many ? row[i] : -1);
            }
        }
    }

    private void byTheirNumbers() {
        edges.of(8, "beat", "of such by one BEAT, by their numbers");
        CashBalls x = Due.opened(Edges.six());
        for (int ball = 5; ball >= 0; ball--) {
            x.carry(ball, 0);
            x.send(ball);
        }
        x.beat();
        for (int i = 0; i < 6; i++) {
            edges.is("row(" + i + ")", x.row(i), i);
        }
        edges.is("row(6)", x.row(6), -1);
        CashBalls y = Due.opened(Edges.six() + "desk 9;");
        y.carry(5, 0);
        y.carry(0, 1);
        y.send(5);
        y.beat();
        y.carry(1, 0);
        y.send(1);
        y.carry(0, 2);
        y.carry(0, 0);
        y.send(0);
        y.beat();
        int[] row = {5, 0, 1};
        for (int i = 0; i < 3; i++) {
            edges.is("one that was there already is ahead, row(" + i + ")", y.row(i), row[i]);
        }
    }

    private void byWhatWasAhead() {
        edges.of(8, "beat", "BEAT, all by what was ahead of it");
        CashBalls x = Due.opened(one(1, "plain", 1));
        x.send(0);
        x.beat();
        edges.is("in the ROW, not yet served", x.ball(0, 4), 2);
        x.beat();
        edges.is("BACK, none gone yet", x.ball(0, 4), 3);
        edges.is("rests", x.beat(), 1);
        CashBalls y = Due.opened(one(1, "plain", 1) + "ball q plain size 30 home a;");
        y.send(0);
        y.send(1);
        beats(y, 2);
        edges.is("q was not the first one", y.row(0), 1);
        edges.is("p rests", y.beat(), 1);
        edges.is("q is BACK", y.ball(1, 4), 3);
        edges.is("q rests", y.beat(), 2);
    }

    private void nextBeat() {
        edges.of(8, "beat", "It is the next beat.");
        CashBalls x = new CashBalls();
        for (int i = 0; i < 500; i++) {
            x.beat();
        }
        edges.is("500", x.count(3), 500);
        edges.is("the day", x.count(2), 0);
        x.day();
        edges.is("a day", x.count(3), 0);
        x.beat();
        edges.is("beat 1", x.count(3), 1);
    }

    private void cork() {
        edges.of(8, "beat", "A cork one takes two beats to a place, others one.");
        String[] kinds = {"plain", "oak", "willow", "cork"};
        int[] places = {1, 20};
        for (int kind = 0; kind < 4; kind++) {
            int each = kind == 3 ? 2 : 1;
            for (int place : places) {
                CashBalls x = Due.opened(one(place, kinds[kind], 1));
                x.send(0);
                beats(x, each * place - 1);
                edges.is(kinds[kind] + " from " + place + " is OUT", x.ball(0, 4), 1);
                x.beat();
                edges.is(kinds[kind] + " from " + place + " is in the ROW", x.ball(0, 4), 2);
                x.beat();
                edges.is(kinds[kind] + " to " + place + " has so many to go", x.back(0), each * place);
            }
        }
    }

    private void placeOfThePit() {
        edges.of(24, "back", "in the PIT, one place behind the last COUNTER");
        int[] places = {1, 2, 19, 20};
        String[] kinds = {"plain", "cork"};
        for (int place : places) {
            for (String kind : kinds) {
                int each = kind.equals("cork") ? 2 : 1;
                CashBalls x = Due.opened("counter a at " + place + " gap 29;ball p " + kind + " size 30 home a;desk 1;");
                x.send(0);
                beats(x, each * place + 1);
                edges.is("to the PIT behind " + place, x.back(0), each * (place + 1));
            }
        }
        CashBalls y = Due.opened("counter a at 7 gap 1;counter b at 3 gap 2;counter c at 5 gap 3;"
            + "ball p plain size 4 home b;desk 1;");
        edges.is("behind the last along the rail", y.trip(0), 3 + 1 + 8);
    }

    private void beatsTillAllRest() {
        edges.of(11, "day", "DAY: how many beats till all rest.");
        edges.is("of nothing", new CashBalls().day(), 0);
        CashBalls x = Due.opened(one(1, "plain", 1));
        edges.is("all rest", x.day(), 0);
        x.send(0);
        edges.is("as soon as can be", x.day(), 3);
        x.send(0);
        beats(x, 2);
        edges.is("one is left", x.day(), 1);
        x.send(0);
        beats(x, 3);
        edges.is("none is left", x.day(), 0);
        CashBalls far = Due.opened("counter a at 20 gap 1;ball p cork size 2 home a;ball q cork size 2 home a;"
            + "ball r cork size 2 home a;ball s cork size 2 home a;ball t cork size 2 home a;ball u cork size 2 home a;"
            + "desk 9;");
        for (int ball = 0; ball < 6; ball++) {
            far.send(ball);
        }
        edges.is("as slow as can be", far.day(), 40 + 6 * 9 + 42);
        edges.is("all in the PIT", far.count(8), 63);
    }

    /** What a day takes of a ball of this size and kind, by this law. */
    private void loss(String law, String kind, int size, int want) {
        CashBalls x = Due.opened("counter a at 1 gap 60;ball p " + kind + " size " + size + " home a;wears " + law + ";");
        x.day();
        edges.is(law + " of " + kind + " " + size, x.ball(0, 1), size - want);
    }

    private void lossOfNine() {
        edges.of(11, "day", "the E of wears (-9 to 9) is taken away");
        int[] worth = {-10000, -11, -10, -9, -8, -1, 0, 1, 8, 9, 10, 11, 9999};
        for (int e : worth) {
            String law = e < 0 ? e == -10000 ? "0-9999-1" : "0-" + -e : "" + e;
            int want = Math.max(-9, Math.min(9, e));
            loss(law, "plain", 30, want);
            loss(law, "cork", 30, want);
        }
    }

    private void oak() {
        edges.of(11, "day", "for an oak one no more than 1, nor less than -1");
        int[] worth = {-9, -2, -1, 0, 1, 2, 9};
        for (int e : worth) {
            loss(e < 0 ? "0-" + -e : "" + e, "oak", 30, Integer.signum(e));
        }
    }

    private void willow() {
        edges.of(11, "day", "for a willow one twice");
        int[] worth = {-10, -9, -1, 0, 1, 9, 10};
        for (int e : worth) {
            loss(e < 0 ? "0-" + -e : "" + e, "willow", 30, 2 * Math.max(-9, Math.min(9, e)));
        }
    }

    private void leastAndMost() {
        edges.of(11, "day", "it is 1 at least, 60 at most");
        loss("1", "plain", 2, 1);
        loss("1", "plain", 1, 0);
        loss("9", "plain", 10, 9);
        loss("9", "plain", 9, 8);
        loss("9", "willow", 19, 18);
        loss("9", "willow", 18, 17);
        loss("1", "oak", 1, 0);
        loss("0-1", "plain", 59, -1);
        loss("0-1", "plain", 60, 0);
        loss("0-9", "cork", 51, -9);
        loss("0-9", "cork", 52, -8);
        loss("0-9", "willow", 42, -18);
        loss("0-9", "willow", 43, -17);
        loss("0-1", "oak", 60, 0);
    }

    private void nextDay() {
        edges.of(11, "day", "it is beat 0 of the next day");
        CashBalls x = Due.opened(one(1, "plain", 1) + "damp 4 7;");
        x.beat();
        x.send(0);
        x.beat();
        edges.is("two are left", x.day(), 2);
        edges.is("day", x.count(2), 1);
        edges.is("beat", x.count(3), 0);
        edges.is("damp", x.count(4), 7);
        edges.is("SENT", x.ball(0, 5), 0);
        edges.is("to undo", x.count(12), 4);
        CashBalls many = new CashBalls();
        for (int i = 0; i < 500; i++) {
            many.day();
        }
        edges.is("500", many.count(2), 500);
    }

    private void back() {
        edges.of(24, "back", "BACK of a BALL: in how many it rests (0: it does).");
        // p is served for three beats and is one away; r, four away, is served behind p; t has one to go
        int[] want = {3 + 1, 0, 3 + 3 + 4, 0, 1};
        for (int ball = 0; ball < 5; ball++) {
            int b = ball;
            edges.asks("back(" + b + ")", Edges::busy, x -> x.back(b), want[b]);
        }
        CashBalls x = Edges.lived(Edges::busy);
        for (int gone = 0; gone <= 10; gone++) {
            edges.is("back(2) behind " + gone, x.back(2), 10 - gone);
            x.beat();
        }
        edges.is("it rests", x.back(2), 0);
    }

    private void backOthers() {
        edges.of(24, "back", "BACK; NONE: others.");
        int[] others = {-1, 5, 6};
        for (int ball : others) {
            edges.asks("back(" + ball + ")", Edges::busy, x -> x.back(ball), -1);
        }
        for (int far : Edges.FAR) {
            edges.asks("back(" + far + ")", Edges::busy, x -> x.back(far), -1);
        }
        edges.is("back(5) of six", Due.opened(Edges.six()).back(5), 0);
        edges.is("back(6) of six", Due.opened(Edges.six()).back(6), -1);
        edges.is("back(0) of none", new CashBalls().back(0), -1);
    }

    private void trip() {
        edges.of(25, "trip", "TRIP of a BALL: in how many, were it SENT now.");
        int[] places = {1, 20};
        int[] desks = {1, 9};
        for (int place : places) {
            for (int desk : desks) {
                Consumer<CashBalls> plain = Edges.shop(one(place, "plain", desk));
                Consumer<CashBalls> cork = Edges.shop(one(place, "cork", desk));
                edges.asks("trip from " + place, plain, x -> x.trip(0), 2 * place + desk);
                edges.asks("trip of cork from " + place, cork, x -> x.trip(0), 4 * place + desk);
            }
        }
        // p is served, then r, who is there a beat sooner than q, then q, who is two away
        edges.asks("trip(1) of a busy one", Edges::busy, x -> x.trip(1), 3 + 3 + 3 + 2);
    }

    private void tripCantBe() {
        edges.of(25, "trip", "TRIP; NONE: others, it can't be SENT.");
        int[] cant = {0, 2, 3, 4, -1, 5, 6};
        for (int ball : cant) {
            edges.asks("trip(" + ball + ")", Edges::busy, x -> x.trip(ball), -1);
        }
        for (int far : Edges.FAR) {
            edges.asks("trip(" + far + ")", Edges::busy, x -> x.trip(far), -1);
        }
        edges.is("trip(6) of six", Due.opened(Edges.six()).trip(6), -1);
        edges.is("trip(5) of six", Due.opened(Edges.six()).trip(5), 14);
        edges.is("trip(0) of none", new CashBalls().trip(0), -1);
    }

    private void rest() {
        edges.of(26, "rest", "REST: in how many all do.");
        edges.is("of nothing", new CashBalls().rest(), 0);
        edges.asks("all rest", Edges.shop(Edges.six()), x -> x.rest(), 0);
        edges.asks("rest() of a busy one", Edges::busy, x -> x.rest(), 10);
        CashBalls x = Edges.lived(Edges::busy);
        for (int gone = 0; gone <= 10; gone++) {
            edges.is("rest() behind " + gone, x.rest(), 10 - gone);
            x.beat();
        }
        CashBalls far = Due.opened("counter a at 20 gap 1;ball p cork size 2 home a;ball q cork size 2 home a;"
            + "ball r cork size 2 home a;ball s cork size 2 home a;ball t cork size 2 home a;ball u cork size 2 home a;"
            + "desk 9;");
        for (int ball = 0; ball < 6; ball++) {
            far.send(ball);
        }
        edges.is("as slow as can be", far.rest(), 40 + 6 * 9 + 42);
        edges.is("back of the last", far.back(5), 40 + 6 * 9 + 42);
        edges.is("back of the first", far.back(0), 40 + 9 + 42);
    }

    private void row() {
        edges.of(27, "row", "ROW, the i-th (from 0)");
        CashBalls x = Due.opened(Edges.six());
        for (int ball = 0; ball < 6; ball++) {
            x.carry(ball, 0);
            x.send(ball);
        }
        edges.is("none yet", x.row(0), -1);
        x.beat();
        for (int i = 0; i < 6; i++) {
            edges.is("row(" + i + ")", x.row(i), i);
        }
        edges.is("row(6)", x.row(6), -1);
        beats(x, 2);
        for (int i = 0; i < 6; i++) {
            edges.is("row(" + i + ") without the first", x.row(i), i < 5 ? i + 1 : -1);
        }
    }

    private void rowNone() {
        edges.of(27, "row", "ROW, the i-th (from 0); NONE: none such.");
        int[] others = {-2, -1, 1, 2, 5, 6};
        for (int i : others) {
            edges.asks("row(" + i + ")", Edges::busy, x -> x.row(i), -1);
        }
        for (int far : Edges.FAR) {
            edges.asks("row(" + far + ")", Edges::busy, x -> x.row(far), -1);
        }
        edges.asks("row(0) of one", Edges::busy, x -> x.row(0), 0);
        edges.is("row(0) of nothing", new CashBalls().row(0), -1);
    }

    private void last() {
        edges.of(28, "last", "LAST: who rests last, of those that do not yet");
        edges.asks("last() of a busy one", Edges::busy, x -> x.last(), 2);
        CashBalls x = Due.opened(one(1, "plain", 1));
        x.send(0);
        int[] want = {0, 0, 0, -1};
        for (int gone = 0; gone < 4; gone++) {
            edges.is("last() behind " + gone, x.last(), want[gone]);
            x.beat();
        }
        CashBalls six = Due.opened(Edges.six());
        six.send(5);
        edges.is("the last of six", six.last(), 5);
        six.send(0);
        edges.is("the last of six still", six.last(), 5);
    }

    private void ofEqualOnesTheFirst() {
        edges.of(28, "last", "of those that do not yet; of equal ones the first.");
        CashBalls x = Due.opened("counter a at 2 gap 10;counter b at 1 gap 1;ball p plain size 1 home b;"
            + "ball q plain size 2 home a;desk 1;");
        x.send(1);
        beats(x, 2);
        x.send(0);
        edges.is("p", x.back(0), 3);
        edges.is("q", x.back(1), 3);
        edges.is("equal", x.last(), 0);
        CashBalls y = Due.opened("counter a at 3 gap 10;counter b at 1 gap 1;ball p plain size 1 home b;"
            + "ball q plain size 2 home a;desk 1;");
        y.send(1);
        beats(y, 3);
        y.send(0);
        edges.is("p sooner", y.back(0), 3);
        edges.is("q", y.back(1), 4);
        edges.is("the later one", y.last(), 1);
    }

    private void allRest() {
        edges.of(28, "last", "LAST; NONE: all rest.");
        edges.is("of nothing", new CashBalls().last(), -1);
        edges.asks("last() at rest", Edges.shop(Edges.six()), x -> x.last(), -1);
        CashBalls x = Edges.lived(Edges::busy);
        x.day();
        edges.is("behind a day", x.last(), -1);
        edges.is("one is in the PIT", x.count(8) & 8, 8);
    }
}
