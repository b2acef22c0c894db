/** Promises 14 to 23: falls, catches, span, idle, lost, twins, crowd, shave, trim, swap. */
final class GapsTest {
    private static final Due DUE = new Due();

    public static void main(String[] args) {
        where();
        spans();
        crowds();
        shave();
        trim();
        trimOfTies();
        swap();
        DUE.end();
    }

    private static void where() {
        CashBalls x = Due.opened("counter far at 9 gap 30;counter near at 2 gap 5;counter mid at 5 gap 5;"
            + "ball a oak size 5 home near;ball b oak size 6 home far;ball c oak size 31 home far;");
        DUE.is("as wide as its size", x.falls(0), 1);
        DUE.is("along the rail", x.falls(1), 0);
        DUE.is("the PIT", x.falls(2), 6);
        DUE.is("falls(3)", x.falls(3), -1);
        DUE.is("falls(-1)", x.falls(-1), -1);
        DUE.is("catches(1)", x.catches(1), 1);
        DUE.is("catches(5)", x.catches(5), 1);
        DUE.is("catches(30)", x.catches(30), 0);
        DUE.is("catches(31)", x.catches(31), 6);
        DUE.is("catches(60)", x.catches(60), 6);
        DUE.is("catches(0)", x.catches(0), -1);
        DUE.is("catches(61)", x.catches(61), -1);
        DUE.is("lost()", x.lost(), 4);
        x.set(0, 60);
        DUE.is("lost() behind a set", x.lost(), 0);
        x.set(0, 5);
        DUE.is("lost() of two", x.lost(), 6);
        x.send(1);
        DUE.is("one that is OUT falls, too", x.falls(1), 6);
    }

    private static void spans() {
        CashBalls x = Due.opened("counter far at 9 gap 60;counter near at 2 gap 5;counter mid at 5 gap 5;"
            + "counter shut at 1 gap 0;ball a oak size 9 home near;");
        DUE.is("least of near", x.span(1, 0), 1);
        DUE.is("most of near", x.span(1, 1), 5);
        DUE.is("least of far", x.span(0, 0), 6);
        DUE.is("most of far", x.span(0, 1), 60);
        DUE.is("least of mid", x.span(2, 0), -1);
        DUE.is("most of mid", x.span(2, 1), -1);
        DUE.is("least of shut", x.span(3, 0), -1);
        DUE.is("span(1, 2)", x.span(1, 2), -1);
        DUE.is("span(1, -1)", x.span(1, -1), -1);
        DUE.is("span(4, 0)", x.span(4, 0), -1);
        DUE.is("span(-1, 0)", x.span(-1, 0), -1);
        DUE.is("no size, not no ball", x.idle(), 12);
        x.set(3, 1);
        DUE.is("size 1 alone", x.span(3, 0), 1);
        DUE.is("size 1 alone", x.span(3, 1), 1);
        x.set(1, 60);
        x.set(3, 59);
        DUE.is("size 60 alone", x.span(1, 0), 60);
        DUE.is("size 60 alone", x.span(1, 1), 60);
        DUE.is("none is left for far", x.idle(), 5);
    }

    private static void crowds() {
        CashBalls x = Due.opened("counter far at 9 gap 20;counter near at 2 gap 5;ball a oak size 6 home far;"
            + "ball b oak size 5 home near;ball c oak size 20 home far;ball d oak size 1 home near;"
            + "ball e oak size 21 home far;ball f oak size 60 home far;");
        DUE.is("twins, none in the PIT", x.twins(), 2);
        DUE.is("of equal ones the first by number", x.crowd(), 0);
        x.set(1, 6);
        DUE.is("near has three", x.crowd(), 1);
        DUE.is("three pairs", x.twins(), 3);
        x.set(0, 0);
        x.set(1, 0);
        DUE.is("all in the PIT", x.crowd(), -1);
        DUE.is("no pairs", x.twins(), 0);
        DUE.is("all lost", x.lost(), 63);
        DUE.is("all idle", x.idle(), 3);
    }

    private static void shave() {
        CashBalls x = Due.opened("counter far at 9 gap 20;counter near at 2 gap 5;counter mid at 4 gap 3;"
            + "ball a oak size 9 home near;ball b oak size 2 home far;ball c oak size 6 home far;"
            + "ball d oak size 30 home far;ball e oak size 4 home mid;");
        DUE.is("less by 4", x.shave(0), 4);
        DUE.is("more by 4", x.shave(1), 4);
        DUE.is("it does", x.shave(2), 0);
        DUE.is("less by 10", x.shave(3), 10);
        DUE.is("by none", x.shave(4), -1);
        DUE.is("shave(5)", x.shave(5), -1);
        DUE.is("shave(-1)", x.shave(-1), -1);
        CashBalls y = Due.opened("counter a at 1 gap 59;counter b at 2 gap 60;ball p oak size 1 home b;");
        DUE.is("by 59", y.shave(0), 59);
    }

    private static void trim() {
        CashBalls x = Due.opened(Due.DRAPER);
        int[] gaps = {4, 0, 6, 12};
        DUE.is("trim(NONE)", x.trim(-1), 3);
        for (int i = 0; i < 4; i++) {
            DUE.is("trim(" + i + ")", x.trim(i), gaps[i]);
        }
        DUE.is("trim(4)", x.trim(4), -2);
        DUE.is("trim(-2)", x.trim(-2), -2);
        DUE.is("nothing is set", x.counter(0, 1), 5);
        DUE.is("nothing to undo", x.count(12), 0);
        CashBalls worn = Due.opened("counter a at 3 gap 7;ball p plain size 60 home a;wears 1;");
        DUE.is("size 60", worn.trim(0), 60);
        worn.day();
        DUE.is("one ball", worn.trim(-1), 1);
        DUE.is("size 59", worn.trim(0), 59);
        CashBalls none = Due.opened("counter a at 3 gap 7;counter b at 1 gap 9;");
        DUE.is("without balls none goes home", none.trim(-1), 0);
        DUE.is("all gaps are 0", none.trim(0), 0);
        DUE.is("all gaps are 0", none.trim(1), 0);
    }

    private static void trimOfTies() {
        // near: c; far: a (size 3) and b (size 8); c has size 8: near = 8 brings c alone, near = 0 brings a and b
        CashBalls x = Due.opened("counter far at 9 gap 0;counter near at 2 gap 0;ball a oak size 3 home far;"
            + "ball b oak size 8 home far;ball c oak size 8 home near;");
        DUE.is("two", x.trim(-1), 2);
        DUE.is("near", x.trim(1), 0);
        DUE.is("far", x.trim(0), 8);
        // one of the two goes home either way: the first row along the rail has near at 0
        CashBalls y = Due.opened("counter far at 9 gap 0;counter near at 2 gap 0;ball a oak size 5 home far;"
            + "ball b oak size 5 home near;");
        DUE.is("one", y.trim(-1), 1);
        DUE.is("near", y.trim(1), 0);
        DUE.is("far", y.trim(0), 5);
    }

    private static void swap() {
        CashBalls x = Due.opened("counter a at 2 gap 20;counter b at 4 gap 5;counter c at 6 gap 30;"
            + "ball p oak size 4 home a;ball q oak size 15 home b;ball r oak size 25 home c;");
        DUE.is("a and b", x.swap(), 1);
        x.set(0, 5);
        x.set(1, 20);
        DUE.is("not more than now", x.swap(), -1);
        CashBalls y = Due.opened("counter a at 9 gap 1;counter b at 4 gap 1;counter c at 6 gap 9;"
            + "ball p oak size 9 home a;ball q oak size 9 home b;");
        DUE.is("of equal ones the first pair", y.swap(), 2);
        y.set(0, 9);
        y.set(2, 1);
        DUE.is("as many is not more", y.swap(), -1);
        CashBalls z = Due.opened("counter a at 9 gap 9;counter b at 4 gap 1;counter c at 6 gap 2;"
            + "ball p oak size 1 home c;ball q oak size 2 home b;ball r oak size 9 home a;");
        DUE.is("1 and 2", z.swap(), 10);
    }
}
