/** Promises 29 to 34: later, stray, first, safe, wide, over. */
final class DaysTest {
    private static final Due DUE = new Due();
    private static final String TWO = "counter a at 3 gap 9;counter b at 6 gap 20;";

    public static void main(String[] args) {
        later();
        strays();
        wideAndOver();
        DUE.end();
    }

    private static void later() {
        CashBalls x = Due.opened(TWO + "ball p plain size 9 home a;ball q oak size 15 home b;wears runs+date;");
        DUE.is("now", x.later(0, 0), 9);
        DUE.is("0 on day 0", x.later(0, 1), 9);
        DUE.is("1 on day 1", x.later(0, 2), 8);
        DUE.is("2 on day 2", x.later(0, 3), 6);
        DUE.is("3 on day 3", x.later(0, 4), 3);
        DUE.is("1 at least", x.later(0, 5), 1);
        DUE.is("oak by 1", x.later(1, 5), 11);
        DUE.is("behind 60", x.later(1, 60), 1);
        x.send(0);
        DUE.is("sent once today", x.later(0, 1), 8);
        DUE.is("but not tomorrow", x.later(0, 2), 7);
        DUE.is("now", x.later(0, 0), 9);
        DUE.is("no day went by", x.count(2), 0);
        x.day();
        DUE.is("as foreseen", x.ball(0, 1), 8);
        DUE.is("from day 1 on", x.later(0, 1), 7);
        DUE.is("later(0, 61)", x.later(0, 61), -1);
        DUE.is("later(0, -1)", x.later(0, -1), -1);
        DUE.is("later(2, 0)", x.later(2, 0), -1);
        DUE.is("later(-1, 0)", x.later(-1, 0), -1);
    }

    private static void strays() {
        CashBalls x = Due.opened(TWO + "ball p oak size 20 home b;ball q plain size 13 home b;"
            + "ball r willow size 17 home b;ball s plain size 5 home a;wears 1;");
        DUE.is("p", x.stray(0), 11);
        DUE.is("q", x.stray(1), 4);
        DUE.is("r", x.stray(2), 4);
        DUE.is("s never", x.stray(3), -1);
        DUE.is("stray(4)", x.stray(4), -1);
        DUE.is("stray(-1)", x.stray(-1), -1);
        DUE.is("first of equal ones", x.first(), 1);
        DUE.is("safe(0)", x.safe(0), 15);
        DUE.is("safe(3)", x.safe(3), 15);
        DUE.is("safe(4)", x.safe(4), 9);
        DUE.is("safe(10)", x.safe(10), 9);
        DUE.is("safe(11)", x.safe(11), 8);
        DUE.is("safe(60)", x.safe(60), 8);
        DUE.is("safe(61)", x.safe(61), -1);
        DUE.is("safe(-1)", x.safe(-1), -1);
        x.set(0, 4);
        DUE.is("s is astray at once", x.stray(3), 0);
        DUE.is("first", x.first(), 3);
        x.set(0, 9);
        // one that is astray for a while and comes home again is not safe
        CashBalls y = Due.opened(TWO + "ball p plain size 9 home a;damp 0 9;wears wet-1-(wet=9)*7;");
        DUE.is("larger on day 1", y.later(0, 1), 10);
        DUE.is("as ahead on day 2", y.later(0, 2), 9);
        DUE.is("stray", y.stray(0), 1);
        DUE.is("safe(0)", y.safe(0), 1);
        DUE.is("safe(2)", y.safe(2), 0);
        CashBalls z = Due.opened("counter a at 1 gap 2;ball p plain size 1 home a;wears 0-(date=59);");
        DUE.is("2 behind 60 days", z.later(0, 60), 2);
        DUE.is("never", z.stray(0), -1);
        DUE.is("so large by 60", z.over(0, 2), 60);
        DUE.is("none by 60", z.first(), -1);
        z.set(0, 1);
        DUE.is("by 60", z.stray(0), 60);
        DUE.is("first by 60", z.first(), 0);
        DUE.is("safe(59)", z.safe(59), 1);
        DUE.is("safe(60)", z.safe(60), 0);
    }

    private static void wideAndOver() {
        CashBalls x = Due.opened(TWO + "ball p plain size 10 home b;ball q willow size 4 home a;"
            + "ball r plain size 10 home b;ball s oak size 12 home b;wears 0-2;");
        DUE.is("wide(0)", x.wide(0), 3);
        // 12, 8, 12, 13
        DUE.is("wide(1)", x.wide(1), 3);
        // 14, 12, 14, 14
        DUE.is("wide(2), of equal ones the first", x.wide(2), 0);
        // 18, 20, 18, 16
        DUE.is("wide(4)", x.wide(4), 1);
        DUE.is("wide(60)", x.wide(60), 0);
        DUE.is("wide(61)", x.wide(61), -1);
        DUE.is("wide(-1)", x.wide(-1), -1);
        DUE.is("wide without balls", Due.opened(TWO).wide(0), -1);
        DUE.is("over now", x.over(0, 10), 0);
        DUE.is("over now", x.over(0, 1), 0);
        DUE.is("over 11", x.over(0, 11), 1);
        DUE.is("over 12", x.over(0, 12), 1);
        DUE.is("over 60", x.over(0, 60), 25);
        DUE.is("oak over 60", x.over(3, 60), 48);
        DUE.is("over(0, 0)", x.over(0, 0), -1);
        DUE.is("over(0, 61)", x.over(0, 61), -1);
        DUE.is("over(4, 1)", x.over(4, 1), -1);
        DUE.is("over(-1, 1)", x.over(-1, 1), -1);
        CashBalls y = Due.opened(TWO + "ball p plain size 10 home b;wears 1;");
        DUE.is("not by 60", y.over(0, 11), -1);
    }
}
