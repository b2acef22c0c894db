/** Promises 29 to 34: later, stray, first, safe, wide, over. */
final class DayEdges {
    /** Grows by 1 on day 59 alone, so that it is larger behind 60 days and not sooner. */
    private static final String ON_DAY_59 = "counter a at 1 gap 5;ball p plain size 5 home a;wears 0-(date=59);";
    private static final String ON_DAY_60 = "counter a at 1 gap 5;ball p plain size 5 home a;wears 0-(date=60);";
    private static final String TWO = "counter a at 1 gap 20;counter b at 2 gap 60;";

    private final Edges edges;

    private DayEdges(Edges edges) {
        this.edges = edges;
    }

    static void hold(Edges edges) {
        DayEdges d = new DayEdges(edges);
        d.later();
        d.daysGoingBy();
        d.laterOthers();
        d.stray();
        d.strayNone();
        d.strayAtOnce();
        d.first();
        d.firstNone();
        d.safe();
        d.safeOthers();
        d.wide();
        d.wideEqual();
        d.wideOthers();
        d.over();
        d.overSoLarge();
        d.overOthers();
    }

    private void later() {
        edges.of(29, "later", "LATER: the size of a BALL behind so many (0 to 60).");
        CashBalls x = Due.opened(ON_DAY_59);
        edges.is("behind 0", x.later(0, 0), 5);
        edges.is("behind 59", x.later(0, 59), 5);
        edges.is("behind 60", x.later(0, 60), 6);
        CashBalls y = Due.opened("counter a at 1 gap 60;ball p plain size 60 home a;wears 1;");
        for (int days = 0; days <= 60; days++) {
            edges.is("behind " + days, y.later(0, days), Math.max(1, 60 - days));
        }
        CashBalls z = Edges.lived(Edges::busy);
        int now = z.ball(1, 1);
        int next = z.later(1, 1);
        edges.is("behind 0, now", z.later(1, 0), now);
        z.day();
        edges.is("behind 1, then", z.ball(1, 1), next);
    }

    private void daysGoingBy() {
        edges.of(29, "later", "(DAYS going by, nothing else being done.)");
        int[][] sizes = new int[5][31];
        CashBalls x = Edges.lived(Edges::busyUntold);
        for (int ball = 0; ball < 5; ball++) {
            for (int days = 0; days <= 30; days++) {
                sizes[ball][days] = x.later(ball, days);
            }
        }
        for (int days = 0; days <= 30; days++) {
            for (int ball = 0; ball < 5; ball++) {
                edges.is("of " + ball + " behind " + days, sizes[ball][days], x.ball(ball, 1));
            }
            x.day();
        }
        String shop = "counter a at 1 gap 60;ball p plain size 30 home a;desk 1;wears runs*(date+1);";
        CashBalls sent = Due.opened(shop);
        sent.send(0);
        edges.is("SENT this day counts for this day", sent.later(0, 1), 29);
        edges.is("and for no other", sent.later(0, 60), 29);
        sent.day();
        sent.send(0);
        sent.day();
        edges.is("SENT on day 1", sent.ball(0, 1), 27);
        edges.is("not on this day", sent.later(0, 60), 27);
    }

    private void laterOthers() {
        edges.of(29, "later", "LATER; NONE: others.");
        int[] days = {-2, -1, 61, 62};
        for (int d : days) {
            edges.asks("later(0, " + d + ")", Edges::busy, x -> x.later(0, d), -1);
        }
        int[] balls = {-1, 5, 6};
        for (int ball : balls) {
            edges.asks("later(" + ball + ", 0)", Edges::busy, x -> x.later(ball, 0), -1);
            edges.asks("later(" + ball + ", 60)", Edges::busy, x -> x.later(ball, 60), -1);
        }
        for (int far : Edges.FAR) {
            edges.asks("later(" + far + ", 0)", Edges::busy, x -> x.later(far, 0), -1);
            edges.asks("later(0, " + far + ")", Edges::busy, x -> x.later(0, far), -1);
        }
        edges.is("later(5, 60) of six", Due.opened(Edges.six()).later(5, 60), 60);
        edges.is("later(6, 60) of six", Due.opened(Edges.six()).later(6, 60), -1);
        edges.is("later(0, 0) of none", new CashBalls().later(0, 0), -1);
    }

    private void stray() {
        edges.of(30, "stray", "STRAY of a BALL: behind how many (0 to 60) it FALLS elsewhere than at HOME.");
        edges.asks("behind 60", Edges.shop(ON_DAY_59), x -> x.stray(0), 60);
        edges.asks("not behind 61", Edges.shop(ON_DAY_60), x -> x.stray(0), -1);
        CashBalls x = Due.opened(ON_DAY_60);
        x.day();
        edges.is("a day on, behind 60", x.stray(0), 60);
        for (int i = 1; i <= 60; i++) {
            x.day();
        }
        edges.is("now", x.stray(0), 0);
        CashBalls y = Due.opened(TWO + "ball p plain size 21 home b;wears 1;");
        edges.is("so small that a catches it", y.stray(0), 1);
        CashBalls z = Due.opened(TWO + "ball p plain size 20 home a;wears 0-1;");
        edges.is("so large that a does not", z.stray(0), 1);
    }

    private void strayNone() {
        edges.of(30, "stray", "STRAY; NONE: others, not by 60.");
        int[] balls = {-1, 5, 6};
        for (int ball : balls) {
            edges.asks("stray(" + ball + ")", Edges::busy, x -> x.stray(ball), -1);
        }
        for (int far : Edges.FAR) {
            edges.asks("stray(" + far + ")", Edges::busy, x -> x.stray(far), -1);
        }
        edges.asks("not by 60", Edges.shop(ON_DAY_60), x -> x.stray(0), -1);
        edges.asks("never", Edges.shop(Edges.six()), x -> x.stray(5), -1);
        edges.is("stray(6) of six", Due.opened(Edges.six()).stray(6), -1);
        edges.is("stray(0) of none", new CashBalls().stray(0), -1);
    }

    private void strayAtOnce() {
        edges.of(30, "stray", "it FALLS elsewhere than at HOME");
        CashBalls x = Due.opened(TWO + "ball p plain size 20 home a;ball q plain size 21 home a;");
        edges.is("as wide as its size", x.stray(0), -1);
        edges.is("larger by 1", x.stray(1), 0);
        x.carry(0, 1);
        edges.is("where it rests is no matter", x.stray(0), -1);
        x.set(0, 19);
        edges.is("a gap less by 1", x.stray(0), 0);
        x.set(1, 19);
        edges.is("in the PIT", x.stray(0), 0);
    }

    private void first() {
        edges.of(31, "first", "FIRST: the BALL that does so the soonest (by 60); of equal ones the first.");
        edges.asks("by 60", Edges.shop(ON_DAY_59), x -> x.first(), 0);
        edges.asks("not by 61", Edges.shop(ON_DAY_60), x -> x.first(), -1);
        CashBalls x = Due.opened(TWO + "ball p plain size 24 home b;ball q plain size 22 home b;"
            + "ball r plain size 22 home b;ball s plain size 23 home b;wears 1;");
        edges.is("q as soon as r", x.stray(1) == x.stray(2), true);
        edges.is("the first of the two", x.first(), 1);
        x.set(0, 23);
        edges.is("three now", x.first(), 1);
        x.set(0, 24);
        edges.is("all four now", x.first(), 0);
        CashBalls six = Due.opened(Edges.six());
        six.set(5, 59);
        edges.is("the last of six", six.first(), 5);
    }

    private void firstNone() {
        edges.of(31, "first", "FIRST; NONE: none by 60.");
        edges.is("of nothing", new CashBalls().first(), -1);
        edges.asks("of six that never do", Edges.shop(Edges.six()), x -> x.first(), -1);
        edges.asks("without BALLS", Edges.shop(TWO), x -> x.first(), -1);
        CashBalls x = Due.opened(ON_DAY_60);
        edges.is("behind 61", x.first(), -1);
        x.day();
        edges.is("behind 60", x.first(), 0);
    }

    private void safe() {
        edges.of(32, "safe", "SAFE: BALLS that do not behind any of 0 to so many (0 to 60) (bits).");
        CashBalls x = Due.opened(TWO + "ball p plain size 24 home b;ball q plain size 20 home b;"
            + "ball r plain size 21 home b;ball s oak size 60 home b;wears 1;");
        edges.is("safe(0)", x.safe(0), 13);
        edges.is("safe(1)", x.safe(1), 9);
        edges.is("safe(3)", x.safe(3), 9);
        edges.is("safe(4)", x.safe(4), 8);
        edges.is("safe(39)", x.safe(39), 8);
        edges.is("safe(40)", x.safe(40), 0);
        CashBalls y = Due.opened(ON_DAY_59);
        edges.is("safe(59)", y.safe(59), 1);
        edges.is("safe(60)", y.safe(60), 0);
        CashBalls z = Due.opened(TWO + "ball p plain size 20 home a;damp 1 0;wears 1-2*wet;");
        edges.is("larger behind 1", z.later(0, 1), 21);
        edges.is("as ahead behind 2", z.later(0, 2), 20);
        edges.is("not behind any", z.safe(0), 1);
        edges.is("not behind 1", z.safe(1), 0);
        edges.is("nor behind 2, of which 1 is one", z.safe(2), 0);
        edges.is("all six", Due.opened(Edges.six()).safe(60), 63);
    }

    private void safeOthers() {
        edges.of(32, "safe", "SAFE, as bits; NONE: others.");
        int[] days = {-2, -1, 61, 62};
        for (int d : days) {
            edges.asks("safe(" + d + ")", Edges::busy, x -> x.safe(d), -1);
        }
        for (int far : Edges.FAR) {
            edges.asks("safe(" + far + ")", Edges::busy, x -> x.safe(far), -1);
        }
        edges.is("safe(60) of none", new CashBalls().safe(60), 0);
        edges.is("safe(61) of none", new CashBalls().safe(61), -1);
        edges.is("safe(-1) of none", new CashBalls().safe(-1), -1);
    }

    private void wide() {
        edges.of(33, "wide", "WIDE: the BALL that is the largest behind so many (0 to 60)");
        CashBalls x = Due.opened("counter a at 1 gap 60;ball p plain size 6 home a;ball q oak size 5 home a;"
            + "wears (date=59)*9;");
        edges.is("wide(0)", x.wide(0), 0);
        edges.is("wide(59)", x.wide(59), 0);
        edges.is("wide(60)", x.wide(60), 1);
        edges.is("of six", Due.opened(Edges.six()).wide(0), 5);
        CashBalls one = Due.opened("counter a at 1 gap 60;ball p plain size 1 home a;wears 9;");
        edges.is("of one of size 1", one.wide(60), 0);
    }

    private void wideEqual() {
        edges.of(33, "wide", "the largest behind so many (0 to 60); of equal ones the first.");
        CashBalls x = Due.opened("counter a at 1 gap 60;ball p plain size 5 home a;ball q plain size 7 home a;"
            + "ball r oak size 7 home a;ball s plain size 6 home a;wears 1;");
        edges.is("of two the first", x.wide(0), 1);
        edges.is("r is equal on", x.wide(5), 1);
        edges.is("of four", x.wide(60), 0);
        CashBalls y = Due.opened("counter a at 1 gap 60;ball p plain size 5 home a;ball q plain size 6 home a;");
        edges.is("larger by 1", y.wide(0), 1);
    }

    private void wideOthers() {
        edges.of(33, "wide", "WIDE; NONE: others, no BALLS.");
        int[] days = {-2, -1, 61, 62};
        for (int d : days) {
            edges.asks("wide(" + d + ")", Edges::busy, x -> x.wide(d), -1);
        }
        for (int far : Edges.FAR) {
            edges.asks("wide(" + far + ")", Edges::busy, x -> x.wide(far), -1);
        }
        edges.is("no BALLS", new CashBalls().wide(0), -1);
        edges.is("no BALLS", new CashBalls().wide(60), -1);
        edges.is("COUNTERS alone", Due.opened(TWO).wide(1), -1);
        edges.is("one BALL", Due.opened(ON_DAY_59).wide(0), 0);
    }

    private void over() {
        edges.of(34, "over", "OVER of a BALL and a size (1 to 60): behind how many (0 to 60) it is so large, or larger.");
        edges.asks("behind 60", Edges.shop(ON_DAY_59), x -> x.over(0, 6), 60);
        edges.asks("not behind 61", Edges.shop(ON_DAY_60), x -> x.over(0, 6), -1);
        CashBalls x = Due.opened("counter a at 1 gap 60;ball p plain size 1 home a;wears 0-1;");
        for (int size = 1; size <= 60; size++) {
            edges.is("over(0, " + size + ")", x.over(0, size), size - 1);
        }
        CashBalls y = Due.opened("counter a at 1 gap 60;ball p plain size 60 home a;wears 9;");
        edges.is("60 now", y.over(0, 60), 0);
        edges.is("1 now", y.over(0, 1), 0);
        edges.is("of six", Due.opened(Edges.six()).over(5, 60), 0);
        edges.is("of six", Due.opened(Edges.six()).over(4, 51), -1);
    }

    private void overSoLarge() {
        edges.of(34, "over", "it is so large, or larger");
        CashBalls x = Due.opened("counter a at 1 gap 60;ball p willow size 10 home a;wears 0-1;");
        edges.is("so large", x.over(0, 10), 0);
        edges.is("not so large yet", x.over(0, 11), 1);
        edges.is("so large behind 1", x.over(0, 12), 1);
        edges.is("larger behind 2", x.over(0, 13), 2);
        edges.is("60", x.over(0, 60), 25);
        edges.is("less", x.over(0, 9), 0);
    }

    private void overOthers() {
        edges.of(34, "over", "OVER; NONE: others, not by 60.");
        int[] sizes = {-1, 0, 61, 62};
        for (int size : sizes) {
            edges.asks("over(0, " + size + ")", Edges::busy, x -> x.over(0, size), -1);
        }
        int[] balls = {-1, 5, 6};
        for (int ball : balls) {
            edges.asks("over(" + ball + ", 1)", Edges::busy, x -> x.over(ball, 1), -1);
            edges.asks("over(" + ball + ", 60)", Edges::busy, x -> x.over(ball, 60), -1);
        }
        for (int far : Edges.FAR) {
            edges.asks("over(" + far + ", 1)", Edges::busy, x -> x.over(far, 1), -1);
            edges.asks("over(0, " + far + ")", Edges::busy, x -> x.over(0, far), -1);
        }
        edges.is("over(6, 1) of six", Due.opened(Edges.six()).over(6, 1), -1);
        edges.is("over(0, 1) of none", new CashBalls().over(0, 1), -1);
        edges.is("not by 60", Due.opened(ON_DAY_60).over(0, 6), -1);
    }
}
