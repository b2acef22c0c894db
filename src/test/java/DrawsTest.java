import java.util.NoSuchElementException;

/** Promises 38 to 40: chance, rests, weeks. */
final class DrawsTest {
    private static final Due DUE = new Due();

    public static void main(String[] args) {
        chance();
        rests();
        wrongRests();
        weeks();
        DUE.end();
    }

    private static void chance() {
        // a damp day makes it larger by 1, a dry one leaves it: at home with at most two damp days
        CashBalls x = Due.opened("counter a at 1 gap 7;ball p plain size 5 home a;damp 9;wears 0-(wet=9);");
        DUE.is("1 day", x.chance(0, 1, 3), 1000000);
        DUE.is("2 days", x.chance(0, 2, 3), 1000000);
        DUE.is("3 days", x.chance(0, 3, 3), 973000);
        DUE.is("4 days", x.chance(0, 4, 3), 916300);
        DUE.is("6 days", x.chance(0, 6, 3), 117649 + 6 * 3 * 16807 + 15 * 9 * 2401);
        DUE.is("never damp", x.chance(0, 6, 0), 1000000);
        DUE.is("always damp", x.chance(0, 6, 10), 0);
        DUE.is("always damp, 2 days", x.chance(0, 2, 10), 1000000);
        DUE.is("0 days", x.chance(0, 0, 3), -1);
        DUE.is("7 days", x.chance(0, 7, 3), -1);
        DUE.is("odds 11", x.chance(0, 1, 11), -1);
        DUE.is("odds -1", x.chance(0, 1, -1), -1);
        DUE.is("chance(1, 1, 1)", x.chance(1, 1, 1), -1);
        DUE.is("chance(-1, 1, 1)", x.chance(-1, 1, 1), -1);
        // what was sent counts on the first day alone, and the date goes on
        CashBalls y = Due.opened("counter a at 1 gap 5;ball p plain size 5 home a;wears 0-runs-(date=2)*(wet=9);");
        DUE.is("not sent", y.chance(0, 2, 4), 1000000);
        DUE.is("damp on day 2", y.chance(0, 3, 4), 600000);
        y.send(0);
        DUE.is("sent", y.chance(0, 1, 4), 0);
        y.day();
        y.set(0, 6);
        DUE.is("on the next day", y.chance(0, 1, 4), 1000000);
        DUE.is("day 2 is the second", y.chance(0, 2, 4), 600000);
    }

    private static int rests(int lose, int counts, int not, int what) {
        try {
            return new CashBalls().rests(lose, counts, not, what);
        } catch (NoSuchElementException e) {
            return -99;
        }
    }

    private static void rests(int lose, int counts, int not, int... want) {
        String call = "rests(" + lose + ", " + counts + ", " + not + ", ";
        DUE.is(call + "NONE)", rests(lose, counts, not, -1), want.length);
        for (int i = 0; i < 4; i++) {
            DUE.is(call + i + ")", rests(lose, counts, not, i), i < want.length ? want[i] : -99);
        }
    }

    private static void rests() {
        rests(2, 5, 1, 1, 2);
        rests(0, 9, 0, 1, 2, 3);
        rests(0, 0, 0, 0, 1, 2, 3);
        rests(9, 0, 0, 0, 1, 2);
        rests(0, 5, 0, 1, 2, 3);
        rests(1, 0, 1, 0, 1, 2);
        rests(9, 9, 9, 1, 2);
        rests(0, 5, 3, 1, 2);
        rests(0, 0, 3, 0, 1, 2);
    }

    private static void wrongRests() {
        int[] wrong = {-1, 10, Integer.MIN_VALUE, Integer.MAX_VALUE};
        for (int w : wrong) {
            DUE.is("lose " + w, rests(w, 1, 1, -1), -99);
            DUE.is("counts " + w, rests(1, w, 1, -1), -99);
            DUE.is("not " + w, rests(1, 1, w, -1), -99);
        }
        DUE.is("what -2", rests(1, 1, 1, -2), -99);
        DUE.is("what MIN", rests(1, 1, 1, Integer.MIN_VALUE), -99);
        DUE.is("what MAX", rests(1, 1, 1, Integer.MAX_VALUE), -99);
        DUE.is("what 4", rests(0, 0, 0, 4), -99);
    }

    /** The draws of a seed, as the document tells them. */
    private static int draws(long seed, int many, int below) {
        long g = seed;
        for (int i = 0; i < many; i++) {
            g = (g * 1103515245L + 12345L) % 2147483648L;
        }
        return (int) (g / 65536 % below);
    }

    private static long firstSeed(int luck, boolean less) {
        for (long seed = 0; seed < 9999; seed++) {
            int first = draws(seed, 1, 8);
            if (less ? first < luck : first == luck) {
                return seed;
            }
        }
        return -1;
    }

    private static void weeks() {
        String shop = "counter a at 1 gap 5;counter b at 2 gap 9;ball p plain size 7 home a;desk 1;wears 1;";
        CashBalls x = Due.opened(shop);
        int day = (int) firstSeed(7, false);
        int send = (int) firstSeed(4, true);
        int beat = (int) firstSeed(4, false);
        DUE.is("a day wears", x.weeks(day, 1, 2), 6);
        DUE.is("a beat does not", x.weeks(beat, 1, 2), 7);
        DUE.is("a send does not", x.weeks(send, 1, 2), 7);
        x.send(0);
        DUE.is("it fell at b in the day", x.weeks(day, 1, 0), 1);
        DUE.is("it is ASTRAY", x.weeks(day, 1, 1), 1);
        DUE.is("not yet by a beat", x.weeks(beat, 1, 0), 0);
        DUE.is("one that does not rest is not ASTRAY", x.weeks(beat, 1, 1), 0);
        x.beat();
        x.beat();
        x.beat();
        DUE.is("by the last beat", x.weeks(beat, 1, 0), 1);
        DUE.is("all is as ahead", x.ball(0, 4), 3);
        DUE.is("all is as ahead", x.count(2), 0);
        DUE.is("nothing more to undo", x.count(12), 4);
        int[] seeds = {-1, 10000, Integer.MIN_VALUE};
        for (int seed : seeds) {
            DUE.is("seed " + seed, x.weeks(seed, 1, 0), -1);
        }
        DUE.is("seed 9999", x.weeks(9999, 1, 2) >= 0, true);
        DUE.is("0 weeks", x.weeks(1, 0, 0), -1);
        DUE.is("100 weeks", x.weeks(1, 100, 0), -1);
        DUE.is("what 3", x.weeks(1, 1, 3), -1);
        DUE.is("what -1", x.weeks(1, 1, -1), -1);
        DUE.is("no balls", new CashBalls().weeks(1, 99, 0), 0);
        DUE.is("no balls", new CashBalls().weeks(1, 99, 1), 0);
        DUE.is("no balls", new CashBalls().weeks(1, 99, 2), 0);
    }
}
