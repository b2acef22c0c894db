/** Promises 35 to 37: see, who, ask. */
final class SeenEdges {
    private static final String AB = "counter a at 1 gap 10;counter b at 2 gap 20;";
    /** Behind 30 days, and not sooner, p is 11 and q 12. */
    private static final String ON_DAY_29 = AB + "ball p oak size 10 home a;ball q plain size 10 home a;"
        + "wears 0-(date=29)*2;";

    private final Edges edges;

    private SeenEdges(Edges edges) {
        this.edges = edges;
    }

    static void hold(Edges edges) {
        SeenEdges s = new SeenEdges(edges);
        s.days();
        s.eightAtMost();
        s.others();
        s.whoAllSeen();
        s.asWhenAsked();
        s.whoOfDays();
        s.greaterNumber();
        s.lessThanAll();
        s.thirtyDays();
        s.theCounter();
        s.byDaysThenCounters();
    }

    private void days() {
        edges.of(35, "see", "behind so many (0 to 30) DAYS FALLS at a COUNTER, or does not");
        int[] within = {0, 1, 29, 30};
        for (int days : within) {
            CashBalls x = Due.opened(AB);
            edges.is("see(0, " + days + ", true)", x.see(0, days, true), true);
            edges.is("see(1, " + days + ", false)", x.see(1, days, false), true);
            edges.is("SEEN", x.count(11), 2);
            edges.is("nothing to undo", x.count(12), 0);
        }
        int[] beyond = {-2, -1, 31, 32};
        for (int days : beyond) {
            edges.refused("see(0, " + days + ", true)", Edges::busy, x -> x.see(0, days, true) ? 1 : 0, 0);
            edges.refused("see(0, " + days + ", false)", Edges::busy, x -> x.see(0, days, false) ? 1 : 0, 0);
        }
    }

    private void eightAtMost() {
        edges.of(35, "see", "8 at most, as all is when it is asked");
        CashBalls x = Due.opened(Edges.six());
        for (int i = 1; i <= 8; i++) {
            edges.is("see " + i, x.see(i % 6, 0, false), true);
            edges.is("SEEN", x.count(11), i);
        }
        edges.is("a ninth", x.see(0, 0, true), false);
        edges.is("SEEN", x.count(11), 8);
        edges.refused("a ninth", y -> {
            Edges.busy(y);
            for (int i = 1; i <= 7; i++) {
                y.see(1, 30, false);
            }
        }, y -> y.see(0, 0, false) ? 1 : 0, 0);
        edges.is("see 8 of a busy one", Edges.lived(y -> {
            Edges.busy(y);
            for (int i = 1; i <= 6; i++) {
                y.see(1, 30, false);
            }
        }).see(0, 0, false), true);
        CashBalls last = Due.opened(Edges.six());
        for (int i = 1; i <= 7; i++) {
            last.see(0, 0, false);
        }
        edges.is("all but the first by seven", last.who(), 62);
        last.see(5, 30, true);
        edges.is("the eighth counts", last.who(), 32);
        last.see(4, 0, true);
        edges.is("the ninth does not", last.who(), 32);
    }

    private void others() {
        edges.of(35, "see", "SEEN: true; false: others, 8 there are.");
        int[] counters = {-1, 3, 6};
        for (int counter : counters) {
            edges.refused("see(" + counter + ", 0, true)", Edges::busy, x -> x.see(counter, 0, true) ? 1 : 0, 0);
            edges.refused("see(" + counter + ", 30, false)", Edges::busy, x -> x.see(counter, 30, false) ? 1 : 0, 0);
        }
        for (int far : Edges.FAR) {
            edges.refused("see(" + far + ", 0, true)", Edges::busy, x -> x.see(far, 0, true) ? 1 : 0, 0);
            edges.refused("see(0, " + far + ", true)", Edges::busy, x -> x.see(0, far, true) ? 1 : 0, 0);
        }
        edges.is("see(5, 0, true) of six", Due.opened(Edges.six()).see(5, 0, true), true);
        edges.refused("see(6, 0, true), the PIT, of six", Edges.shop(Edges.six()), x -> x.see(6, 0, true) ? 1 : 0, 0);
        edges.refused("see(0, 0, true) of none", x -> { }, x -> x.see(0, 0, true) ? 1 : 0, 0);
        edges.is("without BALLS", Due.opened(AB).see(0, 0, true), true);
    }

    private void whoAllSeen() {
        edges.of(36, "who", "WHO: BALLS by which all SEEN is so (bits).");
        edges.is("of nothing", new CashBalls().who(), 0);
        CashBalls x = Due.opened(Edges.six());
        edges.is("nothing SEEN", x.who(), 63);
        for (int counter = 0; counter < 6; counter++) {
            x.see(counter, 0, false);
            edges.is("not at 0 to " + counter, x.who(), 63 >> counter + 1 << counter + 1);
        }
        CashBalls y = Due.opened(Edges.six());
        y.see(3, 30, true);
        edges.is("at 3", y.who(), 8);
        y.see(3, 0, true);
        edges.is("at 3 twice", y.who(), 8);
        y.see(2, 0, true);
        edges.is("at 2 as well, none", y.who(), 0);
        CashBalls z = Due.opened("counter a at 1 gap 10;ball p plain size 10 home a;ball q plain size 11 home a;");
        z.see(0, 0, true);
        edges.is("as wide as its size", z.who(), 1);
        CashBalls w = Due.opened("counter a at 1 gap 10;ball p plain size 10 home a;ball q plain size 11 home a;");
        w.see(0, 0, false);
        edges.is("larger by 1", w.who(), 2);
    }

    private void asWhenAsked() {
        edges.of(36, "who", "as all is when it is asked");
        CashBalls x = Due.opened(AB + "ball p plain size 10 home a;ball q plain size 11 home a;ball r plain size 12 home a;"
            + "wears 1;");
        x.see(0, 1, true);
        edges.is("behind 1", x.who(), 3);
        x.day();
        edges.is("behind 1, a day on", x.who(), 7);
        x.undo();
        edges.is("undone", x.who(), 3);
        x.set(0, 9);
        edges.is("a gap less by 1", x.who(), 1);
        x.set(0, 11);
        edges.is("a gap wider", x.who(), 7);
    }

    private void whoOfDays() {
        edges.of(36, "who", "that an unknown BALL, one of those told, behind so many (0 to 30) DAYS FALLS at a COUNTER, or "
            + "does not");
        CashBalls x = Due.opened(ON_DAY_29);
        edges.is("q is larger behind 30", x.later(1, 30), 12);
        edges.is("p is larger by 1", x.later(0, 30), 11);
        edges.is("neither is behind 29", x.later(1, 29), 10);
        x.see(0, 29, true);
        edges.is("both behind 29", x.who(), 3);
        x.set(0, 11);
        x.see(0, 30, true);
        edges.is("p behind 30", x.who(), 1);
        CashBalls y = Due.opened(ON_DAY_29);
        y.set(0, 11);
        y.see(0, 30, false);
        edges.is("q behind 30", y.who(), 2);
    }

    private void greaterNumber() {
        edges.of(37, "ask", "by which the greater number of WHO that FALL there then, or do not, is the least");
        CashBalls x = Due.opened("counter a at 1 gap 10;counter b at 2 gap 20;counter c at 3 gap 30;"
            + "ball p plain size 1 home a;ball q plain size 11 home a;ball r plain size 12 home a;"
            + "ball s plain size 21 home a;");
        edges.is("one and three, two and two, one and three", x.ask(), 1);
        x.see(1, 0, false);
        edges.is("one and one", x.ask(), 0);
        CashBalls y = Due.opened("counter a at 1 gap 10;counter b at 2 gap 20;counter c at 3 gap 30;"
            + "ball p plain size 1 home a;ball q plain size 2 home a;ball r plain size 3 home a;"
            + "ball s plain size 21 home a;ball t plain size 22 home a;");
        edges.is("three and two, none and five, two and three", y.ask(), 0);
        y.set(0, 2);
        edges.is("two and three, one and four, two and three", y.ask(), 0);
        y.set(0, 1);
        edges.is("one and four, two and three", y.ask(), 1);
    }

    private void lessThanAll() {
        edges.of(37, "ask", "is the least, if that is less than all");
        edges.is("of nothing", new CashBalls().ask(), -1);
        edges.is("without BALLS", Due.opened(AB).ask(), -1);
        CashBalls one = Due.opened(AB + "ball p plain size 10 home a;");
        edges.is("of one", one.ask(), -1);
        CashBalls alike = Due.opened(AB + "ball p plain size 9 home a;ball q plain size 10 home a;");
        edges.is("of two that go the same way", alike.ask(), -1);
        CashBalls apart = Due.opened(AB + "ball p plain size 10 home a;ball q plain size 11 home a;");
        edges.is("of two that part", apart.ask(), 0);
        apart.see(0, 0, true);
        edges.is("one is left", apart.ask(), -1);
        apart.see(1, 0, true);
        edges.is("none is left", apart.ask(), -1);
        CashBalls pit = Due.opened(AB + "ball p plain size 21 home a;ball q plain size 60 home a;");
        edges.is("all in the PIT", pit.ask(), -1);
        edges.asks("who() of a busy one", Edges::busy, x -> x.who(), 16);
        edges.asks("ask() of a busy one, where one is left", Edges::busy, x -> x.ask(), -1);
    }

    private void thirtyDays() {
        edges.of(37, "ask", "ASK: the number of DAYS (0 to 30) and the COUNTER");
        String apart = AB + "ball p plain size 10 home a;ball q plain size 9 home a;wears 0-(date=";
        edges.is("p is 11 behind 30", Due.opened(apart + "29);").ask(), 8 * 30);
        edges.is("p is 11 behind 31", Due.opened(apart + "30);").ask(), -1);
        edges.is("p is 11 behind 1", Due.opened(apart + "0);").ask(), 8);
        edges.is("p is 11 now", Due.opened(apart.replace("size 10", "size 11") + "30);").ask(), 0);
        String sixth = "counter a at 1 gap 0;counter b at 2 gap 0;counter c at 3 gap 0;counter d at 4 gap 0;"
            + "counter e at 5 gap 0;counter f at 6 gap 10;";
        edges.is("of six COUNTERS the sixth, behind 30", Due.opened(sixth + "ball p plain size 10 home f;"
            + "ball q plain size 9 home f;wears 0-(date=29);").ask(), 8 * 30 + 5);
    }

    private void theCounter() {
        edges.of(37, "ask", "ASK, as 8 * the DAYS + the COUNTER; NONE: none parts them.");
        CashBalls six = Due.opened(Edges.six());
        six.set(3, 0);
        six.set(4, 0);
        six.set(5, 0);
        edges.is("three in the PIT, which is no COUNTER", six.ask(), 0);
        six.set(0, 0);
        six.set(1, 0);
        edges.is("three at the third", six.ask(), 2);
        six.set(2, 0);
        edges.is("all in the PIT", six.ask(), -1);
        six.set(5, 30);
        edges.is("three at the sixth", six.ask(), 5);
        six.set(5, 60);
        edges.is("all at the sixth", six.ask(), -1);
        six.set(5, 59);
        edges.is("five at the sixth", six.ask(), 5);
    }

    private void byDaysThenCounters() {
        edges.of(37, "ask", "of equal ones the first by DAYS, then COUNTERS");
        CashBalls x = Due.opened("counter b at 2 gap 20;counter a at 1 gap 10;ball p plain size 10 home a;"
            + "ball q plain size 11 home a;");
        edges.is("by either counter, the first by number", x.ask(), 0);
        CashBalls y = Due.opened(AB + "ball p plain size 12 home a;ball q plain size 11 home a;wears 1;");
        edges.is("not now, by either counter behind 1", y.ask(), 8);
        // p, q are at b now, r is at c, s in the PIT; behind 2 q is at a
        CashBalls z = Due.opened("counter a at 1 gap 10;counter b at 2 gap 20;counter c at 3 gap 30;"
            + "ball p plain size 14 home a;ball q plain size 12 home a;ball r plain size 29 home a;"
            + "ball s plain size 31 home a;wears 1;");
        edges.is("now two of four at b", z.ask(), 1);
        z.see(1, 0, true);
        edges.is("p and q part behind 2", z.ask(), 8 * 2);
        CashBalls w = Due.opened("counter a at 1 gap 10;counter b at 2 gap 20;counter c at 3 gap 30;"
            + "ball p plain size 14 home a;ball r plain size 29 home a;ball s plain size 31 home a;wears 1;");
        edges.is("one of three at b now, as good as later", w.ask(), 1);
    }
}
