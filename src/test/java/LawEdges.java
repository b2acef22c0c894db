/** Promise 3, the law of wear, and what of it is seen in promises 11 and 29. */
final class LawEdges {
    /** 2 to the power of 31, less 1. */
    private static final String GREATEST = "9999*9999*21+9999*4790+8416";

    private final Edges edges;

    private LawEdges(Edges edges) {
        this.edges = edges;
    }

    static void hold(Edges edges) {
        LawEdges l = new LawEdges(edges);
        l.testsFromTheLeft();
        l.oneComparison();
        l.sums();
        l.products();
        l.parts();
        l.within5();
        l.withinFiveOthers();
        l.facts();
        l.oneOrZero();
        l.notZeroIsSo();
        l.wrap();
        l.withoutWears();
    }

    private void sound(String law) {
        String text = "wears " + law + ";";
        edges.is("shop() of \"" + text + "\"", Due.shop(new CashBalls(), text), 0);
    }

    /** The place is counted from the law's first sign. */
    private void fault(String law, int kind, int place) {
        String text = "wears " + law + ";";
        edges.refused("shop() of \"" + text + "\"", Edges::busyUntold, x -> Due.shop(x, text), kind + 16 * (place + 6));
    }

    private void worth(String law, int want) {
        CashBalls x = Due.opened("counter a at 1 gap 60;ball b plain size 30 home a;damp 7;wears " + law + ";");
        edges.is("what " + law + " takes away", 30 - x.later(0, 1), want);
    }

    private void testsFromTheLeft() {
        edges.of(3, "shop", "E: TEST { and TEST or or TEST }, from the left");
        worth("3", 3);
        worth("1 or 1 and 0", 0);
        worth("0 and 0 or 1", 1);
        worth("1 or 0 and 0 or 0 and 1", 0);
        worth("0 and 1 or 1 and 1 or 0", 1);
        worth("1 or (1 and 0)", 1);
        worth("1<2 and 2<3", 1);
        worth("1<2 and 3<2", 0);
        sound("1 and 2 or 3");
        fault("and 1", 1, 0);
        fault("or 1", 1, 0);
        fault("1 and", 1, 5);
        fault("1 or", 1, 4);
        fault("1 and or 1", 1, 6);
        fault("1 not 1", 1, 2);
        fault("", 1, 0);
    }

    private void oneComparison() {
        edges.of(3, "shop", "TEST: SUM, or SUM < SUM, or SUM = SUM;");
        worth("1<2", 1);
        worth("2<2", 0);
        worth("3<2", 0);
        worth("0-1<0", 1);
        worth("1=2", 0);
        worth("2=2", 1);
        worth("3=2", 0);
        worth("1+1=4-2", 1);
        worth("1+1<4-2", 0);
        sound("1");
        sound("1<2");
        sound("1=2");
        fault("1<2<3", 1, 3);
        fault("1<2=3", 1, 3);
        fault("1=2<3", 1, 3);
        fault("1=2=3", 1, 3);
        sound("(1<2)<3");
        sound("1<2 and 2<3");
        fault("1<", 1, 2);
        fault("<1", 1, 0);
        fault("1<=2", 1, 2);
    }

    private void sums() {
        edges.of(3, "shop", "SUM: PRODUCT { + or - PRODUCT }");
        worth("9-4-3", 2);
        worth("9-(4-3)", 8);
        worth("1-2+3", 2);
        worth("1+2*3", 7);
        sound("1");
        sound("1+2-3+4-5");
        fault("+1", 1, 0);
        fault("-1", 1, 0);
        fault("1-", 1, 2);
        fault("1--1", 1, 2);
    }

    private void products() {
        edges.of(3, "shop", "PRODUCT: PART { * PART }");
        worth("2*2*2", 8);
        worth("2*3-1", 5);
        worth("2*(3-1)", 4);
        worth("not 0*5", 5);
        sound("1*1");
        fault("*1", 1, 0);
        fault("1*", 1, 2);
        fault("1**1", 1, 2);
        fault("1 1", 1, 2);
    }

    private void parts() {
        edges.of(3, "shop", "PART: a NUMBER, a fact, not PART, ( E )");
        worth("9", 9);
        worth("wet", 7);
        worth("not wet", 0);
        worth("not wet+3", 3);
        worth("(wet)", 7);
        worth("(1 or 0)+(2<3)", 2);
        fault("fact", 1, 0);
        fault("size", 1, 0);
        fault("not", 1, 3);
        fault("()", 1, 1);
        fault("(1", 1, 2);
        fault("1)", 1, 1);
        fault("(1))", 1, 3);
        fault("(and)", 1, 1);
        fault("wet wet", 1, 4);
    }

    private void within5() {
        edges.of(3, "shop", "no PART lies within 5 of not and ( )");
        sound("1");
        sound("(1)");
        sound("((((1))))");
        fault("(((((1)))))", 5, 5);
        sound("not not not not 1");
        fault("not not not not not 1", 5, 20);
        sound("not(not(1))");
        fault("not(not(not 1))", 5, 12);
        sound("(not(not 1))");
        fault("((not(not 1)))", 5, 10);
        // what lies side by side does not lie within
        sound("((((1))))+((((1))))");
        sound("(1)*(2)*(3)*(4)*(5)*(6)");
        sound("not not 1 and not not 1 and not not 1");
        fault("((((1))))+(((((1)))))", 5, 15);
        sound("((((1)+(1))))");
        worth("((((wet))))", 7);
        worth("not not not not wet", 1);
    }

    private void withinFiveOthers() {
        edges.of(3, "shop", "not, or a PART, within 5 others");
        sound("(((not 1)))");
        sound("(((not wet)))");
        fault("((((not 1))))", 5, 8);
        fault("(((((not 1)))))", 5, 5);
        fault("((((((1))))))", 5, 5);
        fault("(((((wet)))))", 5, 5);
        fault("not not not not not not 1", 5, 20);
        fault("not not not not(1)", 5, 16);
        sound("not not not(1)");
        // what can begin no PART is no PART too many
        fault("((((()", 1, 5);
        fault("(((((", 1, 5);
        fault("(((((gap)))))", 1, 5);
        fault("(((((and)))))", 1, 5);
        fault("(((((10000)))))", 1, 5);
        fault("(".repeat(900), 5, 5);
    }

    private void facts() {
        edges.of(3, "shop", "Facts: width (the BALL's size), runs (how often it was SENT this day), wet (the day's damp), "
            + "date (the day's number)");
        String shop = "counter a at 1 gap 60;ball p plain size 4 home a;ball q plain size 7 home a;damp 5 0 2;desk 1;wears ";
        CashBalls width = Due.opened(shop + "width-2;");
        edges.is("width of p", width.later(0, 1), 2);
        edges.is("width of q", width.later(1, 1), 2);
        edges.is("width on day 1", width.later(0, 2), 2);
        CashBalls runs = Due.opened(shop + "runs;");
        runs.send(0);
        runs.day();
        edges.is("p was SENT once", runs.ball(0, 1), 3);
        edges.is("q was not", runs.ball(1, 1), 7);
        runs.day();
        edges.is("p was not SENT on this day", runs.ball(0, 1), 3);
        CashBalls wet = Due.opened(shop + "wet;");
        int[] sizes = {60, 55, 55, 53, 48};
        CashBalls date = Due.opened(shop.replace("size 4", "size 60") + "date;");
        int[] dates = {60, 60, 59, 57, 54};
        for (int days = 0; days < 5; days++) {
            edges.is("wet, behind " + days, wet.later(1, days), Math.max(1, sizes[days] - 53));
            edges.is("date, behind " + days, date.later(0, days), dates[days]);
        }
    }

    private void oneOrZero() {
        edges.of(3, "shop", "Of not, and, or, < and = comes 1 or 0");
        worth("not 0", 1);
        worth("not 1", 0);
        worth("not 2", 0);
        worth("2 and 3", 1);
        worth("2 and 0", 0);
        worth("0 or 3", 1);
        worth("2 or 3", 1);
        worth("0 or 0", 0);
        worth("(5 or 0)+(5 and 5)+(not 0)+(3<8)+(8=8)", 5);
    }

    private void notZeroIsSo() {
        edges.of(3, "shop", "what is not 0 is so");
        worth("not(0-1)", 0);
        worth("(0-1)and(0-1)", 1);
        worth("(0-1)or 0", 1);
        worth("1 and 1", 1);
        worth("0 and 1", 0);
        worth("1 and 0", 0);
        worth("not not(0-5)", 1);
    }

    private void wrap() {
        edges.of(3, "shop", "ints wrap");
        worth(GREATEST + "=" + GREATEST, 1);
        worth(GREATEST + "<0", 0);
        worth(GREATEST + "+1<0", 1);
        worth("0-(" + GREATEST + ")-1<0", 1);
        worth("0-(" + GREATEST + ")-2<0", 0);
        worth(GREATEST + "+" + GREATEST, -2);
        worth("4096*4096*64*2<0", 1);
        worth("4096*4096*64<0", 0);
        worth("4096*4096*256", 0);
        worth("4096*4096*256+3", 3);
        // -2147483648 is less than -9, its negative too: both are -9 in the end
        worth(GREATEST + "+1", -9);
        worth("0-(" + GREATEST + "+1)", -9);
        worth(GREATEST, 9);
    }

    private void withoutWears() {
        edges.of(3, "shop", "Without wears: 0.");
        String shop = "counter a at 1 gap 60;ball p plain size 1 home a;ball q oak size 60 home a;"
            + "ball r willow size 30 home a;damp 9;";
        CashBalls x = Due.opened(shop);
        CashBalls told = Due.opened(shop + "wears 7;");
        int[] sizes = {1, 60, 30};
        for (int ball = 0; ball < 3; ball++) {
            edges.is("behind 60", x.later(ball, 60), sizes[ball]);
        }
        edges.is("with wears", told.later(2, 1), 16);
        Due.shop(told, shop);
        edges.is("no more with wears", told.later(2, 1), 30);
    }
}
