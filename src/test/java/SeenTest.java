/** Promises 35 to 37: see, who, ask. */
final class SeenTest {
    private static final Due DUE = new Due();
    /** By day 0: p, q fall at a, r, s at b. Behind 5 days: p at a, q at b, r at b, s in the PIT. */
    private static final String SHOP = "counter a at 3 gap 9;counter b at 6 gap 20;ball p oak size 1 home a;"
        + "ball q plain size 5 home a;ball r plain size 15 home b;ball s willow size 15 home b;wears 0-1;";

    public static void main(String[] args) {
        see();
        who();
        ask();
        DUE.end();
    }

    private static void see() {
        CashBalls x = Due.opened(SHOP);
        DUE.is("no counter", x.see(2, 0, true), false);
        DUE.is("no counter", x.see(-1, 0, true), false);
        DUE.is("the PIT is none", x.see(6, 0, true), false);
        DUE.is("31 days", x.see(0, 31, true), false);
        DUE.is("-1 days", x.see(0, -1, true), false);
        DUE.is("none is seen", x.count(11), 0);
        for (int i = 0; i < 8; i++) {
            DUE.is("see " + i, x.see(0, 30, false), true);
            DUE.is("seen", x.count(11), i + 1);
        }
        DUE.is("a ninth", x.see(0, 0, true), false);
        DUE.is("seen", x.count(11), 8);
        DUE.is("none to undo", x.count(12), 0);
    }

    private static void who() {
        CashBalls x = Due.opened(SHOP);
        DUE.is("all", x.who(), 15);
        x.see(0, 0, true);
        DUE.is("p, q", x.who(), 3);
        x.see(0, 5, false);
        DUE.is("q", x.who(), 2);
        x.see(1, 0, true);
        DUE.is("none is at both", x.who(), 0);
        DUE.is("none to ask for", x.ask(), -1);
        CashBalls y = Due.opened(SHOP);
        y.see(1, 5, false);
        DUE.is("p, s", y.who(), 9);
        // as all is when it is asked: two days on, behind 5 days, s is in the PIT, q and r at b still
        y.day();
        y.day();
        DUE.is("two days on", y.who(), 13);
        y.set(1, 60);
        DUE.is("b catches s and r", y.who(), 1);
        y.undo();
        DUE.is("as ahead", y.who(), 13);
    }

    private static void ask() {
        CashBalls x = Due.opened(SHOP);
        DUE.is("two and two, on day 0 at a", x.ask(), 0);
        x.see(0, 0, false);
        // r and s part at b behind 3 days: 18 and 21
        DUE.is("behind 3 days at b", x.ask(), 8 * 3 + 1);
        x.see(1, 3, true);
        DUE.is("r alone", x.who(), 4);
        DUE.is("none parts one", x.ask(), -1);
        CashBalls y = Due.opened("counter a at 3 gap 9;counter b at 6 gap 20;ball p oak size 1 home a;"
            + "ball q oak size 2 home a;");
        DUE.is("none parts them", y.ask(), -1);
        CashBalls z = Due.opened("counter a at 3 gap 31;ball p oak size 1 home a;ball q plain size 1 home a;"
            + "wears 0-1-(date=29);");
        DUE.is("31 and 32, behind 30", z.later(1, 30), 32);
        DUE.is("q is larger than 31 behind 30 days", z.ask(), 8 * 30);
    }
}
