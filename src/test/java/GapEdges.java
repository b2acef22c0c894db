/** Promises 14 to 23: falls, catches, span, idle, lost, twins, crowd, shave, trim, swap. */
final class GapEdges {
    private static final String ALONG = "counter far at 20 gap 9;counter near at 1 gap 5;counter mid at 10 gap 5;";

    private final Edges edges;

    private GapEdges(Edges edges) {
        this.edges = edges;
    }

    static void hold(Edges edges) {
        GapEdges g = new GapEdges(edges);
        g.asWideAsItsSize();
        g.firstAlongTheRail();
        g.falls();
        g.catches();
        g.catchesOthers();
        g.span();
        g.spanOthers();
        g.idle();
        g.lost();
        g.twins();
        g.crowd();
        g.crowdNone();
        g.shave();
        g.shaveOfOneToSixty();
        g.shaveNone();
        g.trimMost();
        g.trimGaps();
        g.trimFirstRow();
        g.trimAsTheyAreNow();
        g.trimOthers();
        g.swap();
        g.swapMoreThanNow();
        g.swapFirstPair();
    }

    private static String ball(String name, int size, String home) {
        return "ball " + name + " plain size " + size + " home " + home + ";";
    }

    private void asWideAsItsSize() {
        edges.of(14, "falls", "at the first COUNTER along the rail whose gap is as wide as its size, or wider");
        int[] sizes = {1, 2, 59, 60};
        for (int size : sizes) {
            CashBalls x = Due.opened("counter a at 1 gap 0;" + ball("p", size, "a"));
            x.set(0, size - 1);
            edges.is("gap less by 1, size " + size, x.falls(0), 6);
            x.set(0, size);
            edges.is("gap as wide, size " + size, x.falls(0), 0);
            if (size < 60) {
                x.set(0, size + 1);
                edges.is("gap wider by 1, size " + size, x.falls(0), 0);
            }
            x.set(0, 60);
            edges.is("gap 60, size " + size, x.falls(0), 0);
            x.set(0, 0);
            edges.is("gap 0, size " + size, x.falls(0), 6);
        }
    }

    private void firstAlongTheRail() {
        edges.of(14, "falls", "COUNTERS are along the rail by their places, the desk at 0.");
        CashBalls x = Due.opened("counter d at 20 gap 60;counter a at 1 gap 60;counter c at 19 gap 60;"
            + "counter b at 2 gap 60;" + ball("p", 60, "d"));
        int[] rail = {1, 3, 2, 0};
        for (int counter : rail) {
            edges.is("the first that is wide enough", x.falls(0), counter);
            x.set(counter, 59);
        }
        edges.is("none is", x.falls(0), 6);
        x.set(0, 60);
        edges.is("the last is", x.falls(0), 0);
    }

    private void falls() {
        edges.of(14, "falls", "FALLS (6: the PIT); NONE: others.");
        int[] balls = {-1, 5, 6};
        for (int ball : balls) {
            edges.asks("falls(" + ball + ")", Edges::busy, x -> x.falls(ball), -1);
        }
        for (int far : Edges.FAR) {
            edges.asks("falls(" + far + ")", Edges::busy, x -> x.falls(far), -1);
        }
        int[] want = {0, 2, 1, 6, 0};
        for (int ball = 0; ball < 5; ball++) {
            int b = ball;
            edges.asks("falls(" + b + ")", Edges::busy, x -> x.falls(b), want[b]);
        }
        edges.is("falls(5) of six", Due.opened(Edges.six()).falls(5), 5);
        edges.is("falls(6) of six", Due.opened(Edges.six()).falls(6), -1);
        edges.is("falls(0) of none", new CashBalls().falls(0), -1);
    }

    private void catches() {
        edges.of(15, "catches", "CATCH of a size (1 to 60): at which COUNTER it FALLS.");
        CashBalls x = Due.opened(ALONG);
        for (int size = 1; size <= 60; size++) {
            edges.is("catches(" + size + ")", x.catches(size), size <= 5 ? 1 : size <= 9 ? 0 : 6);
        }
        CashBalls six = Due.opened(Edges.six());
        for (int size = 1; size <= 60; size++) {
            edges.is("catches(" + size + ") of six", six.catches(size), (size - 1) / 10);
        }
    }

    private void catchesOthers() {
        edges.of(15, "catches", "CATCH (6: the PIT); NONE: others.");
        int[] sizes = {-1, 0, 61, 62};
        for (int size : sizes) {
            edges.asks("catches(" + size + ")", Edges::busy, x -> x.catches(size), -1);
            edges.is("catches(" + size + ") of none", new CashBalls().catches(size), -1);
        }
        for (int far : Edges.FAR) {
            edges.asks("catches(" + far + ")", Edges::busy, x -> x.catches(far), -1);
        }
        edges.is("catches(1) of none, the PIT", new CashBalls().catches(1), 6);
        edges.is("catches(60) of none, the PIT", new CashBalls().catches(60), 6);
        edges.asks("catches(21), the PIT", Edges::busy, x -> x.catches(21), 6);
        edges.asks("catches(20)", Edges::busy, x -> x.catches(20), 1);
    }

    private void span() {
        edges.of(16, "span", "SPAN of a COUNTER: the least, the most of the sizes that FALL there.");
        CashBalls six = Due.opened(Edges.six());
        for (int counter = 0; counter < 6; counter++) {
            edges.is("least of " + counter, six.span(counter, 0), 10 * counter + 1);
            edges.is("most of " + counter, six.span(counter, 1), 10 * counter + 10);
        }
        CashBalls x = Due.opened(ALONG);
        x.set(1, 60);
        edges.is("least of all", x.span(1, 0), 1);
        edges.is("most of all", x.span(1, 1), 60);
        x.set(1, 1);
        edges.is("one size", x.span(1, 0), 1);
        edges.is("one size", x.span(1, 1), 1);
        edges.is("behind it", x.span(2, 0), 2);
        x.set(1, 59);
        x.set(0, 60);
        edges.is("the largest alone", x.span(0, 0), 60);
        edges.is("the largest alone", x.span(0, 1), 60);
    }

    private void spanOthers() {
        edges.of(16, "span", "SPAN, what 0: the least, 1: the most; NONE: others, none.");
        int[] whats = {-2, -1, 2, 3};
        for (int what : whats) {
            edges.asks("span(0, " + what + ")", Edges::busy, x -> x.span(0, what), -1);
        }
        int[] counters = {-1, 3, 6};
        for (int counter : counters) {
            edges.asks("span(" + counter + ", 0)", Edges::busy, x -> x.span(counter, 0), -1);
            edges.asks("span(" + counter + ", 1)", Edges::busy, x -> x.span(counter, 1), -1);
        }
        for (int far : Edges.FAR) {
            edges.asks("span(" + far + ", 0)", Edges::busy, x -> x.span(far, 0), -1);
            edges.asks("span(0, " + far + ")", Edges::busy, x -> x.span(0, far), -1);
        }
        edges.is("span(6, 0), the PIT, of six", Due.opened(Edges.six()).span(6, 0), -1);
        CashBalls x = Due.opened(ALONG);
        edges.is("none behind one that is as wide", x.span(2, 0), -1);
        edges.is("none behind one that is as wide", x.span(2, 1), -1);
        x.set(2, 6);
        edges.is("wider by 1", x.span(2, 0), 6);
        x.set(1, 0);
        edges.is("none of gap 0", x.span(1, 0), -1);
        edges.is("none of gap 0", x.span(1, 1), -1);
    }

    private void idle() {
        edges.of(17, "idle", "IDLE: COUNTERS at which none does (bits).");
        edges.is("of none", new CashBalls().idle(), 0);
        CashBalls x = Due.opened(ALONG);
        edges.is("mid is as wide as near", x.idle(), 4);
        x.set(2, 6);
        edges.is("mid is wider by 1", x.idle(), 0);
        x.set(1, 0);
        edges.is("gap 0", x.idle(), 2);
        x.set(1, 1);
        edges.is("gap 1", x.idle(), 0);
        x.set(1, 60);
        edges.is("gap 60 leaves none", x.idle(), 5);
        x.set(1, 59);
        edges.is("gap 59 leaves 60, too large for both", x.idle(), 5);
        x.set(2, 60);
        edges.is("60 FALLS at mid", x.idle(), 1);
        CashBalls six = Due.opened(Edges.six());
        edges.is("none of six", six.idle(), 0);
        for (int counter = 0; counter < 6; counter++) {
            six.set(counter, 0);
        }
        edges.is("all six", six.idle(), 63);
        edges.is("sizes, not BALLS", Due.opened("counter a at 1 gap 1;").idle(), 0);
    }

    private void lost() {
        edges.of(18, "lost", "LOST: BALLS that FALL in the PIT (bits).");
        edges.is("of none", new CashBalls().lost(), 0);
        CashBalls x = Due.opened("counter a at 1 gap 5;" + ball("p", 5, "a") + ball("q", 6, "a"));
        edges.is("larger by 1", x.lost(), 2);
        x.set(0, 4);
        edges.is("both", x.lost(), 3);
        x.set(0, 6);
        edges.is("none", x.lost(), 0);
        CashBalls six = Due.opened(Edges.six());
        edges.is("none of six", six.lost(), 0);
        six.set(5, 59);
        edges.is("the last of six", six.lost(), 32);
        for (int counter = 0; counter < 6; counter++) {
            six.set(counter, 0);
        }
        edges.is("all six", six.lost(), 63);
        edges.asks("lost() of a busy one", Edges::busy, y -> y.lost(), 8);
    }

    private void twins() {
        edges.of(19, "twins", "TWINS: pairs of BALLS that FALL at one COUNTER.");
        edges.is("of none", new CashBalls().twins(), 0);
        CashBalls six = Due.opened(Edges.six());
        edges.is("six at six", six.twins(), 0);
        int[] pairs = {0, 1, 3, 6, 10, 15};
        for (int many = 1; many <= 6; many++) {
            six.set(0, 10 * many);
            edges.is(many + " at one", six.twins(), pairs[many - 1]);
        }
        six.set(0, 30);
        six.set(3, 60);
        edges.is("three and three", six.twins(), 6);
        for (int counter = 0; counter < 6; counter++) {
            six.set(counter, 0);
        }
        edges.is("six in the PIT are none", six.twins(), 0);
        six.set(5, 20);
        edges.is("two at the sixth, four in the PIT", six.twins(), 1);
        edges.is("of one", Due.opened("counter a at 1 gap 5;" + ball("p", 5, "a")).twins(), 0);
    }

    private void crowd() {
        edges.of(20, "crowd", "CROWD: the COUNTER at which the most BALLS FALL; of equal ones the first.");
        CashBalls six = Due.opened(Edges.six());
        edges.is("one each", six.crowd(), 0);
        six.set(4, 60);
        edges.is("two at the fifth", six.crowd(), 4);
        six.set(1, 30);
        edges.is("two at the second, too", six.crowd(), 1);
        six.set(0, 0);
        six.set(1, 0);
        six.set(2, 0);
        six.set(3, 0);
        edges.is("all at the fifth", six.crowd(), 4);
        // the first is the one that was told first, not the one that is first along the rail
        CashBalls x = Due.opened(ALONG + ball("p", 5, "far") + ball("q", 6, "far"));
        edges.is("one at near, one at far", x.crowd(), 0);
        x.set(1, 6);
        edges.is("both at near", x.crowd(), 1);
    }

    private void crowdNone() {
        edges.of(20, "crowd", "CROWD; NONE: none FALLS at any.");
        edges.is("of nothing", new CashBalls().crowd(), -1);
        edges.is("no BALLS", Due.opened(ALONG).crowd(), -1);
        CashBalls six = Due.opened(Edges.six());
        for (int counter = 0; counter < 5; counter++) {
            six.set(counter, 0);
        }
        six.set(5, 10);
        edges.is("one of six at the sixth, five in the PIT", six.crowd(), 5);
        six.set(5, 9);
        edges.is("six in the PIT", six.crowd(), -1);
        CashBalls x = Due.opened("counter a at 1 gap 5;" + ball("p", 5, "a") + ball("q", 6, "a") + ball("r", 7, "a"));
        edges.is("one of three", x.crowd(), 0);
        x.set(0, 4);
        edges.is("three in the PIT", x.crowd(), -1);
    }

    private void shave() {
        edges.of(21, "shave", "SHAVE of a BALL: by how much, at the least, its size would have to be less, or more");
        CashBalls x = Due.opened("counter a at 1 gap 10;counter b at 2 gap 20;counter c at 3 gap 30;"
            + ball("p", 10, "b") + ball("q", 11, "b") + ball("r", 20, "b") + ball("s", 21, "b") + ball("t", 1, "c")
            + ball("u", 60, "a"));
        int[] want = {1, 0, 0, 1, 20, 50};
        for (int ball = 0; ball < 6; ball++) {
            edges.is("shave(" + ball + ")", x.shave(ball), want[ball]);
        }
        x.carry(1, 0);
        edges.is("where it rests is no matter", x.shave(1), 0);
        edges.asks("shave(1) of a busy one", Edges::busy, y -> y.shave(1), 0);
    }

    private void shaveOfOneToSixty() {
        edges.of(21, "shave", "its size would have to be less, or more (1 to 60), so that it FALLS at HOME");
        CashBalls up = Due.opened("counter a at 1 gap 59;counter b at 2 gap 60;" + ball("p", 1, "b"));
        edges.is("from 1 to 60", up.shave(0), 59);
        CashBalls down = Due.opened("counter a at 1 gap 1;" + ball("p", 60, "a"));
        edges.is("from 60 to 1", down.shave(0), 59);
        down.set(0, 0);
        edges.is("0 is no size", down.shave(0), -1);
        CashBalls low = Due.opened("counter a at 1 gap 0;" + ball("p", 1, "a"));
        edges.is("from 1 to 0", low.shave(0), -1);
        up.set(0, 60);
        edges.is("61 is no size", up.shave(0), -1);
    }

    private void shaveNone() {
        edges.of(21, "shave", "SHAVE (0: it does); NONE: others, by none.");
        int[] balls = {-1, 5, 6};
        for (int ball : balls) {
            edges.asks("shave(" + ball + ")", Edges::busy, x -> x.shave(ball), -1);
        }
        for (int far : Edges.FAR) {
            edges.asks("shave(" + far + ")", Edges::busy, x -> x.shave(far), -1);
        }
        edges.is("shave(5) of six", Due.opened(Edges.six()).shave(5), 0);
        edges.is("shave(6) of six", Due.opened(Edges.six()).shave(6), -1);
        edges.is("shave(0) of none", new CashBalls().shave(0), -1);
        CashBalls x = Due.opened(ALONG + ball("p", 5, "mid"));
        edges.is("by none", x.shave(0), -1);
        x.set(2, 6);
        edges.is("by 1", x.shave(0), 1);
    }

    private void trimMost() {
        edges.of(22, "trim", "so set that the most BALLS FALL at HOME");
        edges.is("of nothing", new CashBalls().trim(-1), 0);
        edges.is("no BALLS", Due.opened(ALONG).trim(-1), 0);
        edges.is("all six", Due.opened(Edges.six()).trim(-1), 6);
        CashBalls one = Due.opened("counter a at 1 gap 0;" + ball("p", 1, "a") + ball("q", 60, "a"));
        edges.is("both", one.trim(-1), 2);
        edges.is("by the larger one", one.trim(0), 60);
        CashBalls crossed = Due.opened("counter a at 1 gap 0;counter b at 2 gap 0;" + ball("p", 9, "a")
            + ball("q", 8, "b"));
        edges.is("one of two", crossed.trim(-1), 1);
        CashBalls equal = Due.opened("counter a at 1 gap 0;counter b at 2 gap 0;" + ball("p", 9, "a")
            + ball("q", 9, "b") + ball("r", 9, "b"));
        edges.is("two of three", equal.trim(-1), 2);
        edges.is("a lets them go by", equal.trim(0), 0);
    }

    private void trimGaps() {
        edges.of(22, "trim", "TRIM: gaps of all COUNTERS (0 to 60)");
        CashBalls x = Due.opened("counter b at 2 gap 7;counter a at 1 gap 7;" + ball("p", 60, "b") + ball("q", 59, "a"));
        edges.is("both", x.trim(-1), 2);
        edges.is("59 at a", x.trim(1), 59);
        edges.is("60 at b", x.trim(0), 60);
        CashBalls y = Due.opened("counter b at 2 gap 7;counter a at 1 gap 7;" + ball("p", 2, "b") + ball("q", 1, "a"));
        edges.is("1 at a", y.trim(1), 1);
        edges.is("2 at b", y.trim(0), 2);
        CashBalls six = Due.opened(Edges.six());
        for (int counter = 0; counter < 6; counter++) {
            edges.is("of six, the gap of " + counter, six.trim(counter), 10 * counter + 10);
        }
        edges.is("none is set", six.count(12), 0);
    }

    private void trimFirstRow() {
        edges.of(22, "trim", "of equal ones the first row (of gaps, along the rail)");
        CashBalls none = Due.opened(ALONG);
        for (int counter = 0; counter < 3; counter++) {
            edges.is("without BALLS all are 0", none.trim(counter), 0);
        }
        // either goes home, not both: the row along the rail begins with 0 if q does
        CashBalls x = Due.opened("counter far at 9 gap 0;counter near at 2 gap 0;" + ball("p", 5, "near")
            + ball("q", 5, "far"));
        edges.is("one", x.trim(-1), 1);
        edges.is("near", x.trim(1), 0);
        edges.is("far", x.trim(0), 5);
        // the gap of one that none calls home is 0, ahead of the others or behind them
        CashBalls y = Due.opened("counter a at 1 gap 9;counter b at 2 gap 9;counter c at 3 gap 9;" + ball("p", 4, "b"));
        edges.is("a", y.trim(0), 0);
        edges.is("b, no wider than it must be", y.trim(1), 4);
        edges.is("c", y.trim(2), 0);
        // p (size 8, home a) and q (size 3, home b): a at 8 or a at 0 and b at 3
        CashBalls z = Due.opened("counter a at 1 gap 9;counter b at 2 gap 9;" + ball("p", 8, "a") + ball("q", 3, "b"));
        edges.is("the lesser gap ahead", z.trim(0), 0);
        edges.is("the gap behind", z.trim(1), 3);
        // a at 10 for two leaves nothing for b's ball of 5, and b's gap is 0 then
        CashBalls w = Due.opened("counter a at 1 gap 9;counter b at 2 gap 9;counter c at 3 gap 0;" + ball("p", 10, "a")
            + ball("q", 10, "a") + ball("r", 5, "b") + ball("s", 11, "c"));
        int[] row = {10, 0, 11};
        edges.is("three of four", w.trim(-1), 3);
        for (int counter = 0; counter < 3; counter++) {
            edges.is("the gap of " + counter, w.trim(counter), row[counter]);
        }
    }

    private void trimAsTheyAreNow() {
        edges.of(22, "trim", "(By sizes and gaps as they are now.)");
        CashBalls x = Due.opened("counter a at 1 gap 0;counter b at 2 gap 0;" + ball("p", 60, "b") + ball("q", 2, "a")
            + "wears 1;");
        edges.is("60", x.trim(1), 60);
        edges.is("2", x.trim(0), 2);
        x.day();
        edges.is("59 on day 1", x.trim(1), 59);
        edges.is("1 on day 1", x.trim(0), 1);
        edges.is("both", x.trim(-1), 2);
        x.undo();
        edges.is("60 again", x.trim(1), 60);
        x.set(0, 60);
        edges.is("the gaps that are set are no matter", x.trim(0), 2);
    }

    private void trimOthers() {
        edges.of(22, "trim", "TRIM, what NONE: how many; i: the gap of the i-th COUNTER; -2: others.");
        int[] others = {-3, -2, 3, 4, 6};
        for (int what : others) {
            edges.asks("trim(" + what + ")", Edges::busy, x -> x.trim(what), -2);
        }
        for (int far : Edges.FAR) {
            edges.asks("trim(" + far + ")", Edges::busy, x -> x.trim(far), -2);
        }
        edges.asks("trim(NONE)", Edges::busy, x -> x.trim(-1), 5);
        edges.asks("trim(0)", Edges::busy, x -> x.trim(0), 3);
        edges.asks("trim(2)", Edges::busy, x -> x.trim(2), 7);
        edges.asks("trim(1)", Edges::busy, x -> x.trim(1), 28);
        edges.is("trim(5) of six", Due.opened(Edges.six()).trim(5), 60);
        edges.is("trim(6) of six", Due.opened(Edges.six()).trim(6), -2);
        edges.is("trim(0) of none", new CashBalls().trim(0), -2);
    }

    private void swap() {
        edges.of(23, "swap", "SWAP, as 8 * the lesser + the other one; NONE: none.");
        edges.is("of nothing", new CashBalls().swap(), -1);
        edges.is("of one", Due.opened("counter a at 1 gap 1;" + ball("p", 9, "a")).swap(), -1);
        edges.is("of six that do", Due.opened(Edges.six()).swap(), -1);
        for (int lesser = 0; lesser < 6; lesser++) {
            for (int other = lesser + 1; other < 6; other++) {
                CashBalls x = Due.opened(Edges.six());
                x.set(lesser, 10 * other + 10);
                x.set(other, 10 * lesser + 10);
                edges.is("swap() of " + lesser + " and " + other, x.swap(), 8 * lesser + other);
            }
        }
        edges.asks("swap() of a busy one", Edges::busy, x -> x.swap(), -1);
    }

    private void swapMoreThanNow() {
        edges.of(23, "swap", "let the most BALLS FALL at HOME, if these are more than now");
        CashBalls x = Due.opened("counter a at 1 gap 9;counter b at 2 gap 5;" + ball("p", 5, "a") + ball("q", 9, "b"));
        edges.is("two, and one now", x.swap(), 1);
        CashBalls y = Due.opened("counter a at 1 gap 9;counter b at 2 gap 5;" + ball("p", 9, "a") + ball("q", 9, "b"));
        edges.is("one, and one now", y.swap(), -1);
        CashBalls z = Due.opened("counter a at 1 gap 9;counter b at 2 gap 5;" + ball("p", 9, "a") + ball("q", 5, "a")
            + ball("r", 9, "b"));
        edges.is("two, and two now", z.swap(), -1);
        CashBalls less = Due.opened("counter a at 1 gap 9;counter b at 2 gap 5;" + ball("p", 9, "a"));
        edges.is("none, and one now", less.swap(), -1);
    }

    private void swapFirstPair() {
        edges.of(23, "swap", "of equal ones the first pair (the lesser number, then the other one)");
        // 9 is at d: a goes home by a and d, b by b and d, c by c and d
        String shop = "counter a at 1 gap 1;counter b at 2 gap 1;counter c at 3 gap 1;counter d at 4 gap 9;";
        CashBalls x = Due.opened(shop + ball("p", 9, "a") + ball("q", 9, "b") + ball("r", 9, "c"));
        edges.is("a and d", x.swap(), 3);
        CashBalls y = Due.opened(shop + ball("q", 9, "b") + ball("r", 9, "c"));
        edges.is("b and d", y.swap(), 8 + 3);
        CashBalls z = Due.opened(shop + ball("p", 9, "a") + ball("q", 9, "c") + ball("r", 9, "c"));
        edges.is("the most, not the first", z.swap(), 16 + 3);
        // p goes home by 0 and 1 as by 0 and 2
        CashBalls w = Due.opened("counter a at 3 gap 1;counter b at 4 gap 9;counter c at 5 gap 9;" + ball("p", 9, "a"));
        edges.is("the lesser other one", w.swap(), 1);
    }
}
