import java.util.NoSuchElementException;
import java.util.function.Consumer;

/** Promises 38 to 40: chance, rests, weeks. */
final class LuckEdges {
    private static final String SMALL = "counter a at 1 gap 5;counter b at 2 gap 9;ball p plain size 7 home a;"
        + "ball q plain size 4 home a;ball r plain size 9 home b;desk 1;damp 2 7;wears 1-(3<wet)*2;";

    private final Edges edges;

    private LuckEdges(Edges edges) {
        this.edges = edges;
    }

    static void hold(Edges edges) {
        LuckEdges l = new LuckEdges(edges);
        l.chanceDays();
        l.chanceOdds();
        l.chanceOthers();
        l.nineElseZero();
        l.eachDay();
        l.millionths();
        l.restsNumbers();
        l.wouldNotGetMore();
        l.restsNone();
        l.draws();
        l.drawBelowBalls();
        l.drawOfEight();
        l.sentIfItCanBe();
        l.oneToNinetyNine();
        l.weeksOthers();
        l.ifThereAreBalls();
        l.onceItRests();
        l.asAhead();
    }

    private static long power(int base, int many) {
        long all = 1;
        for (int i = 0; i < many; i++) {
            all *= base;
        }
        return all;
    }

    private void chanceDays() {
        edges.of(38, "chance", "CHANCE: each of so many (1 to 6) DAYS");
        // it goes home if no day is damp
        Consumer<CashBalls> shop = Edges.shop("counter a at 1 gap 5;ball p plain size 5 home a;wears 0-wet;");
        for (int days = 1; days <= 6; days++) {
            int many = days;
            edges.asks(days + " DAYS", shop, x -> x.chance(0, many, 1), power(9, days) * power(10, 6 - days));
        }
        int[] others = {-1, 0, 7, 8};
        for (int days : others) {
            edges.asks(days + " DAYS", shop, x -> x.chance(0, days, 1), -1);
        }
    }

    private void chanceOdds() {
        edges.of(38, "chance", "CHANCE, by odds (0 to 10)");
        Consumer<CashBalls> shop = Edges.shop("counter a at 1 gap 5;ball p plain size 5 home a;wears 0-wet;");
        for (int odds = 0; odds <= 10; odds++) {
            int o = odds;
            edges.asks("odds " + odds, shop, x -> x.chance(0, 1, o), 100000L * (10 - odds));
            edges.asks("odds " + odds + " of 6 days", shop, x -> x.chance(0, 6, o), power(10 - odds, 6));
        }
        int[] others = {-2, -1, 11, 12};
        for (int odds : others) {
            edges.asks("odds " + odds, shop, x -> x.chance(0, 1, odds), -1);
        }
    }

    private void chanceOthers() {
        edges.of(38, "chance", "CHANCE, by odds (0 to 10); NONE: others.");
        int[] balls = {-1, 5, 6};
        for (int ball : balls) {
            edges.asks("chance(" + ball + ", 1, 1)", Edges::busy, x -> x.chance(ball, 1, 1), -1);
        }
        for (int far : Edges.FAR) {
            edges.asks("chance(" + far + ", 1, 1)", Edges::busy, x -> x.chance(far, 1, 1), -1);
            edges.asks("chance(0, " + far + ", 1)", Edges::busy, x -> x.chance(0, far, 1), -1);
            edges.asks("chance(0, 1, " + far + ")", Edges::busy, x -> x.chance(0, 1, far), -1);
        }
        edges.is("chance(5, 1, 1) of six", Due.opened(Edges.six()).chance(5, 1, 1), 1000000);
        edges.is("chance(6, 1, 1) of six", Due.opened(Edges.six()).chance(6, 1, 1), -1);
        edges.is("chance(0, 1, 1) of none", new CashBalls().chance(0, 1, 1), -1);
    }

    private void nineElseZero() {
        edges.of(38, "chance", "is damp by 9 by odds of ten, else by 0, in place of what is told");
        String shop = "counter a at 1 gap 5;ball p plain size 5 home a;damp 4;wears 0-";
        edges.is("damp by 9", Due.opened(shop + "(wet=9);").chance(0, 1, 3), 700000);
        edges.is("else by 0", Due.opened(shop + "(wet=0);").chance(0, 1, 3), 300000);
        edges.is("by no other", Due.opened(shop + "(0<wet and wet<9);").chance(0, 6, 3), 1000000);
        edges.is("what is told is not so", Due.opened(shop + "(wet=4);").chance(0, 6, 3), 1000000);
        CashBalls x = Due.opened(shop + "(wet=4);");
        edges.is("what is told stays", x.count(4), 4);
        edges.is("and is so by DAYS", x.later(0, 1), 6);
    }

    private void eachDay() {
        edges.of(38, "chance", "each of so many (1 to 6) DAYS is damp by 9 by odds of ten");
        String shop = "counter a at 1 gap 5;ball p plain size 5 home a;desk 1;wears 0-(wet=9)*";
        for (int date = 0; date <= 6; date++) {
            CashBalls x = Due.opened(shop + "(date=" + date + ");");
            for (int days = 1; days <= 6; days++) {
                edges.is("damp on day " + date + " of " + days, x.chance(0, days, 4), date < days ? 600000 : 1000000);
            }
            x.day();
            edges.is("from day 1 on, damp on day " + date, x.chance(0, 1, 4), date == 1 ? 600000 : 1000000);
            edges.is("to day 6, damp on day " + date, x.chance(0, 6, 4), date >= 1 ? 600000 : 1000000);
        }
        CashBalls sent = Due.opened(shop + "runs;");
        edges.is("not SENT", sent.chance(0, 6, 4), 1000000);
        sent.send(0);
        edges.is("SENT this day", sent.chance(0, 1, 4), 600000);
        edges.is("on no other", sent.chance(0, 6, 4), 600000);
        sent.day();
        edges.is("not on this one", sent.chance(0, 6, 4), 1000000);
    }

    private void millionths() {
        edges.of(38, "chance", "that a BALL FALLS at HOME behind these, in millionths, cut.");
        CashBalls never = Due.opened("counter a at 1 gap 5;ball p plain size 6 home a;");
        CashBalls always = Due.opened("counter a at 1 gap 5;ball p plain size 5 home a;");
        for (int days = 1; days <= 6; days++) {
            edges.is("never, " + days, never.chance(0, days, 5), 0);
            edges.is("always, " + days, always.chance(0, days, 5), 1000000);
        }
        // home again only behind these, not on the way
        CashBalls x = Due.opened("counter a at 1 gap 5;ball p plain size 5 home a;wears (wet=0)-(wet=9);");
        edges.is("behind 2, one each or both dry", x.chance(0, 2, 1), 810000 + 180000);
        edges.is("behind 6, at most three damp", x.chance(0, 6, 1), 531441 + 6 * 59049 + 15 * 6561 + 20 * 729);
        CashBalls rare = Due.opened("counter a at 1 gap 59;counter b at 2 gap 60;ball p plain size 54 home b;"
            + "wears 0-(wet=9);");
        edges.is("all six damp by 1 of ten", rare.chance(0, 6, 1), 1);
        edges.is("all six dry by 1 of ten", Due.opened("counter a at 1 gap 1;ball p plain size 7 home a;wears wet=0;")
            .chance(0, 6, 9), 1);
    }

    private static long rests(CashBalls x, int lose, int counts, int not, int what) {
        try {
            return x.rests(lose, counts, not, what);
        } catch (NoSuchElementException e) {
            return Edges.THROWN;
        }
    }

    private void restsNumbers() {
        edges.of(39, "rests", "both count: each loses so much (0 to 9); one counts: he gets so much (0 to 9), the other one "
            + "so much (0 to 9); neither: nothing");
        int[] within = {0, 9};
        for (int w : within) {
            edges.asks("lose " + w, Edges::busy, x -> rests(x, w, 5, 1, -1), 2);
            edges.asks("counts " + w, Edges::busy, x -> rests(x, 1, w, 1, -1), w == 0 ? 3 : 2);
            edges.asks("not " + w, Edges::busy, x -> rests(x, 1, 5, w, -1), 2);
        }
        int[] beyond = {-2, -1, 10, 11};
        for (int b : beyond) {
            edges.asks("lose " + b, Edges::busy, x -> rests(x, b, 1, 1, -1), Edges.THROWN);
            edges.asks("counts " + b, Edges::busy, x -> rests(x, 1, b, 1, -1), Edges.THROWN);
            edges.asks("not " + b, Edges::busy, x -> rests(x, 1, 1, b, -1), Edges.THROWN);
            edges.asks("lose " + b + ", what 0", Edges::busy, x -> rests(x, b, 1, 1, 0), Edges.THROWN);
        }
        for (int far : Edges.FAR) {
            edges.asks("lose " + far, Edges::busy, x -> rests(x, far, 1, 1, -1), Edges.THROWN);
            edges.asks("counts " + far, Edges::busy, x -> rests(x, 1, far, 1, -1), Edges.THROWN);
            edges.asks("not " + far, Edges::busy, x -> rests(x, 1, 1, far, -1), Edges.THROWN);
        }
    }

    private void all(int lose, int counts, int not, int... want) {
        CashBalls x = new CashBalls();
        String call = "rests(" + lose + ", " + counts + ", " + not + ", ";
        edges.is(call + "NONE)", rests(x, lose, counts, not, -1), want.length);
        for (int i = 0; i <= 4; i++) {
            edges.is(call + i + ")", rests(x, lose, counts, not, i), i < want.length ? want[i] : Edges.THROWN);
        }
    }

    private void wouldNotGetMore() {
        edges.of(39, "rests", "RESTS: by which neither would get more by the other.");
        // as much is not more: each is tried where counting gets 0 or 1 more than not counting
        all(0, 0, 0, 0, 1, 2, 3);
        all(1, 0, 0, 0, 1, 2);
        all(0, 1, 0, 1, 2, 3);
        all(0, 0, 1, 0, 1, 2);
        all(1, 1, 0, 1, 2);
        all(0, 1, 1, 1, 2);
        all(1, 0, 1, 0, 1, 2);
        all(9, 9, 9, 1, 2);
        all(0, 9, 0, 1, 2, 3);
        all(9, 0, 9, 0, 1, 2);
        all(2, 5, 1, 1, 2);
    }

    private void restsNone() {
        edges.of(39, "rests", "NoSuchElementException: others, none such.");
        int[] beyond = {-3, -2, 3, 4, 5};
        for (int what : beyond) {
            edges.asks("the " + what + "-th of three", Edges::busy, x -> rests(x, 0, 1, 0, what), Edges.THROWN);
        }
        edges.asks("the 2nd of three", Edges::busy, x -> rests(x, 0, 1, 0, 2), 3);
        edges.asks("the 2nd of two", Edges::busy, x -> rests(x, 1, 1, 0, 2), Edges.THROWN);
        edges.asks("the 1st of two", Edges::busy, x -> rests(x, 1, 1, 0, 1), 2);
        edges.asks("the 3rd of four", Edges::busy, x -> rests(x, 0, 0, 0, 3), 3);
        edges.asks("the 4th of four", Edges::busy, x -> rests(x, 0, 0, 0, 4), Edges.THROWN);
        for (int far : Edges.FAR) {
            edges.asks("what " + far, Edges::busy, x -> rests(x, 0, 0, 0, far), Edges.THROWN);
        }
    }

    private static long drawn(long g) {
        return (g * 1103515245L + 12345L) % 2147483648L;
    }

    /** The first seed whose first draw below 8 is this one. */
    private static int seedOf(int luck) {
        int seed = 0;
        while (drawn(seed) / 65536 % 8 != luck) {
            seed++;
        }
        return seed;
    }

    /** What weeks should answer, done by hand on an object of the same story; at most some 300 calls. */
    private long byHand(Consumer<CashBalls> story, int seed, int many, int what) {
        CashBalls x = Edges.lived(story);
        int balls = x.count(1);
        long g = seed;
        int fell = 0;
        for (int i = 0; i < many; i++) {
            g = drawn(g);
            int luck = (int) (g / 65536 % 8);
            if (luck < 4) {
                g = drawn(g);
                x.send((int) (g / 65536 % balls));
            } else {
                for (int beats = luck == 7 ? x.rest() : 1; beats > 0; beats--) {
                    int rest = x.beat();
                    fell += rest == 0 ? 0 : Integer.bitCount(rest & x.count(8));
                }
                if (luck == 7) {
                    x.day();
                }
            }
        }
        int sum = 0;
        for (int ball = 0; ball < balls; ball++) {
            sum += x.ball(ball, 1);
        }
        return what == 0 ? fell : what == 1 ? x.count(8) : sum;
    }

    private void draws() {
        edges.of(40, "weeks", "A DRAW below m: g becomes (g * 1103515245 + 12345) modulo 2147483648 (g is the SEED at "
            + "first); it is g / 65536, cut, modulo m.");
        int[] seeds = {0, 1, 2, 17, 9998, 9999};
        for (int seed : seeds) {
            for (int what = 0; what <= 2; what++) {
                int w = what;
                edges.asks("weeks(" + seed + ", 30, " + w + ")", Edges.shop(SMALL), x -> x.weeks(seed, 30, w),
                    byHand(Edges.shop(SMALL), seed, 30, w));
            }
        }
    }

    private void drawBelowBalls() {
        edges.of(40, "weeks", "less than 4: a DRAW below BALLS: that is SENT, if it can be");
        String six = Edges.six().replace("gap 10;", "gap 60;") + "desk 1;wears 0;";
        String one = "counter a at 1 gap 5;ball p plain size 6 home a;desk 1;";
        for (int seed = 0; seed < 12; seed++) {
            int s = seed;
            for (int what = 0; what <= 1; what++) {
                int w = what;
                edges.is("of six, by " + s, Due.opened(six).weeks(s, 20, w), byHand(Edges.shop(six), s, 20, w));
                edges.is("of one, by " + s, Due.opened(one).weeks(s, 20, w), byHand(Edges.shop(one), s, 20, w));
            }
        }
    }

    private void drawOfEight() {
        edges.of(40, "weeks", "a DRAW below 8: less than 4: a DRAW below BALLS: that is SENT, if it can be; 7: the DAY; else "
            + "a BEAT");
        // p is one beat from where it goes astray: a BEAT brings it there, a DAY too and wears it, a SEND neither
        Consumer<CashBalls> nearly = x -> {
            Edges.shop("counter a at 1 gap 5;counter b at 2 gap 9;ball p plain size 7 home a;desk 1;wears 1;").accept(x);
            x.send(0);
            x.beat();
            x.beat();
            x.beat();
        };
        for (int luck = 0; luck < 8; luck++) {
            int seed = seedOf(luck);
            boolean sent = luck < 4;
            edges.asks("how often by " + luck, nearly, x -> x.weeks(seed, 1, 0), sent ? 0 : 1);
            edges.asks("who by " + luck, nearly, x -> x.weeks(seed, 1, 1), sent ? 0 : 1);
            edges.asks("how large by " + luck, nearly, x -> x.weeks(seed, 1, 2), luck == 7 ? 6 : 7);
        }
        // p rests elsewhere than at home, so that it is ASTRAY no more once it is SENT
        Consumer<CashBalls> carried = x -> {
            Edges.shop("counter a at 1 gap 5;counter b at 2 gap 9;ball p plain size 7 home a;wears 1;").accept(x);
            x.carry(0, 1);
        };
        for (int luck = 0; luck < 8; luck++) {
            int seed = seedOf(luck);
            edges.asks("who is ASTRAY by " + luck, carried, x -> x.weeks(seed, 1, 1), luck < 4 ? 0 : 1);
        }
    }

    private void sentIfItCanBe() {
        edges.of(40, "weeks", "that is SENT, if it can be");
        Consumer<CashBalls> inThePit = x -> {
            Edges.shop("counter a at 1 gap 5;ball p plain size 7 home a;desk 1;").accept(x);
            x.send(0);
            x.day();
        };
        int seed = seedOf(0);
        edges.asks("one in the PIT can't be", inThePit, x -> x.weeks(seed, 1, 1), 1);
        edges.asks("it FELL ahead of these", inThePit, x -> x.weeks(seed, 99, 0), 0);
        edges.asks("it stays there", inThePit, x -> x.weeks(seed, 99, 1), 1);
        for (int s = 0; s < 8; s++) {
            int z = s;
            edges.asks("a busy one by " + s, Edges::busyUntold, x -> x.weeks(z, 25, 0), byHand(Edges::busyUntold, z, 25, 0));
            edges.asks("a busy one by " + s, Edges::busyUntold, x -> x.weeks(z, 25, 1), byHand(Edges::busyUntold, z, 25, 1));
        }
    }

    private void oneToNinetyNine() {
        edges.of(40, "weeks", "WEEKS by a SEED of so many (1 to 99), from now on");
        int[] many = {1, 2, 98, 99};
        for (int m : many) {
            for (int what = 0; what <= 2; what++) {
                int w = what;
                for (int seed = 0; seed < 4; seed++) {
                    int s = seed;
                    edges.asks("weeks(" + s + ", " + m + ", " + w + ")", Edges.shop(SMALL), x -> x.weeks(s, m, w),
                        byHand(Edges.shop(SMALL), s, m, w));
                }
            }
        }
        int[] beyond = {-1, 0, 100, 101};
        for (int b : beyond) {
            for (int what = 0; what <= 2; what++) {
                int w = what;
                edges.asks("weeks(1, " + b + ", " + w + ")", Edges::busy, x -> x.weeks(1, b, w), -1);
            }
        }
    }

    private void weeksOthers() {
        edges.of(40, "weeks", "WEEKS by a SEED (0 to 9999), what 0: how often, 1: bits, 2: how large; NONE: others.");
        int[] seeds = {-2, -1, 10000, 10001};
        for (int seed : seeds) {
            for (int what = 0; what <= 2; what++) {
                int w = what;
                edges.asks("weeks(" + seed + ", 1, " + w + ")", Edges::busy, x -> x.weeks(seed, 1, w), -1);
            }
        }
        int[] whats = {-2, -1, 3, 4};
        for (int what : whats) {
            edges.asks("weeks(1, 1, " + what + ")", Edges::busy, x -> x.weeks(1, 1, what), -1);
        }
        for (int far : Edges.FAR) {
            if (far < 0 || far > 9999) {
                edges.asks("weeks(" + far + ", 1, 0)", Edges::busy, x -> x.weeks(far, 1, 0), -1);
            }
            edges.asks("weeks(1, " + far + ", 0)", Edges::busy, x -> x.weeks(1, far, 0), -1);
            edges.asks("weeks(1, 1, " + far + ")", Edges::busy, x -> x.weeks(1, 1, far), -1);
        }
        edges.is("seed -1 without BALLS", new CashBalls().weeks(-1, 1, 0), -1);
        edges.is("seed 10000 without BALLS", new CashBalls().weeks(10000, 1, 0), -1);
        edges.is("100 of these without BALLS", new CashBalls().weeks(0, 100, 0), -1);
        edges.is("what 3 without BALLS", new CashBalls().weeks(0, 1, 3), -1);
    }

    private void ifThereAreBalls() {
        edges.of(40, "weeks", "each, if there are BALLS");
        for (int what = 0; what <= 2; what++) {
            int w = what;
            edges.is("none, what " + w, new CashBalls().weeks(9999, 99, w), 0);
            edges.asks("COUNTERS alone, what " + w, Edges.shop("counter a at 1 gap 5;wears 1;"), x -> x.weeks(0, 99, w), 0);
        }
        edges.is("one", Due.opened("counter a at 1 gap 5;ball p plain size 5 home a;").weeks(0, 1, 2), 5);
        edges.is("six, how large together", Due.opened(Edges.six()).weeks(0, 99, 2), 210);
        CashBalls fewer = Due.opened(Edges.six());
        Due.shop(fewer, "counter a at 1 gap 5;ball p plain size 5 home a;");
        edges.is("one, where six were", fewer.weeks(0, 99, 2), 5);
        edges.is("it falls at HOME", fewer.weeks(0, 99, 0), 0);
    }

    private void onceItRests() {
        edges.of(40, "weeks", "how often a BALL FELL elsewhere than at HOME in these (once it rests)");
        int beat = seedOf(4);
        Consumer<CashBalls> two = x -> {
            Edges.shop("counter a at 1 gap 5;counter b at 2 gap 9;ball p plain size 7 home a;desk 1;").accept(x);
            x.send(0);
            x.beat();
        };
        edges.asks("it FALLS by a BEAT, and does not rest", two, x -> x.weeks(beat, 1, 0), 0);
        edges.asks("all of it by a DAY", two, x -> x.weeks(seedOf(7), 1, 0), 1);
        edges.asks("it rests by a BEAT", x -> {
            two.accept(x);
            x.beat();
            x.beat();
        }, x -> x.weeks(beat, 1, 0), 1);
        edges.asks("it rested ahead of these", x -> {
            two.accept(x);
            x.beat();
            x.beat();
            x.beat();
        }, x -> x.weeks(beat, 1, 0), 0);
        edges.asks("at HOME", x -> {
            two.accept(x);
            x.set(0, 7);
        }, x -> x.weeks(seedOf(7), 1, 0), 0);
        edges.asks("CARRIED is not FALLEN", x -> {
            Edges.shop("counter a at 1 gap 5;counter b at 2 gap 9;ball p plain size 4 home a;").accept(x);
            x.carry(0, 1);
        }, x -> x.weeks(beat, 1, 0), 0);
    }

    private void asAhead() {
        edges.of(40, "weeks", "from now on (all is as ahead then)");
        for (int what = 0; what <= 2; what++) {
            int w = what;
            edges.asks("weeks(3, 99, " + w + ")", Edges::busy, x -> {
                long once = x.weeks(3, 99, w);
                return once == x.weeks(3, 99, w) ? 1 : 0;
            }, 1);
        }
    }
}
