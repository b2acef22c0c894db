/** Promises 24 to 28: back, trip, rest, row, last. */
final class BeatsTest {
    private static final Due DUE = new Due();

    public static void main(String[] args) {
        alone();
        together();
        DUE.end();
    }

    private static void alone() {
        CashBalls x = Due.opened(Due.DRAPER);
        DUE.is("back at rest", x.back(0), 0);
        DUE.is("back(4)", x.back(4), -1);
        DUE.is("back(-1)", x.back(-1), -1);
        DUE.is("trip", x.trip(0), 3 + 2 + 3);
        DUE.is("trip to where it falls", x.trip(2), 9 + 2 + 6);
        DUE.is("trip of cork", x.trip(3), 24 + 2 + 24);
        DUE.is("trip(4)", x.trip(4), -1);
        DUE.is("trip(-1)", x.trip(-1), -1);
        DUE.is("none was sent", x.count(6), 0);
        DUE.is("rest", x.rest(), 0);
        DUE.is("last", x.last(), -1);
        DUE.is("row(0)", x.row(0), -1);
        x.set(3, 0);
        DUE.is("trip to the PIT", x.trip(3), 24 + 2 + 26);
        x.send(3);
        DUE.is("trip of one that is OUT", x.trip(3), -1);
        DUE.is("back", x.back(3), 52);
        x.day();
        DUE.is("it is in the PIT", x.ball(3, 3), 6);
        DUE.is("trip out of the PIT", x.trip(3), -1);
        DUE.is("back in the PIT", x.back(3), 0);
    }

    private static void together() {
        CashBalls x = Due.opened("counter a at 5 gap 10;ball p plain size 1 home a;ball q plain size 2 home a;"
            + "ball r cork size 3 home a;desk 4;");
        x.send(1);
        DUE.is("trip behind another one", x.trip(0), 5 + 4 + 5);
        DUE.is("q alone", x.back(1), 14);
        x.send(0);
        DUE.is("p is ahead in the row by its number", x.back(0), 14);
        DUE.is("q waits for p", x.back(1), 18);
        DUE.is("rest", x.rest(), 18);
        DUE.is("last", x.last(), 1);
        x.send(2);
        // r is at the desk by beat 10, is served from 14 to 17, and 10 beats back
        DUE.is("r waits", x.back(2), 27);
        DUE.is("last", x.last(), 2);
        for (int i = 0; i < 10; i++) {
            x.beat();
        }
        DUE.is("row(0)", x.row(0), 1);
        DUE.is("row(1)", x.row(1), 2);
        DUE.is("row(2)", x.row(2), -1);
        DUE.is("in the row", x.count(5), 2);
        DUE.is("rest", x.rest(), 17);
        DUE.is("p is nearly back", x.back(0), 4);
        DUE.is("the beat is as it was", x.count(3), 10);
        CashBalls y = Due.opened("counter a at 2 gap 10;counter b at 1 gap 1;ball p plain size 1 home b;"
            + "ball q plain size 2 home a;desk 1;");
        // q is served by beat 3 and back by 5; p, sent at beat 2, is served by beat 4 and back by 5
        y.send(1);
        y.beat();
        y.beat();
        y.send(0);
        DUE.is("q", y.back(1), 3);
        DUE.is("p", y.back(0), 3);
        DUE.is("of equal ones the first", y.last(), 0);
    }
}
