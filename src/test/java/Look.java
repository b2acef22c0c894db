/** All that can be asked of an object, as one text. The object is used up by it: undone, gone back to its marks, read. */
final class Look {
    /** The document promises 512 calls; a story ahead of the look has the rest. */
    private static final int MOST_CALLS = 420;

    private final CashBalls x;
    private final StringBuilder text = new StringBuilder();
    private int calls = 0;

    private Look(CashBalls x) {
        this.x = x;
    }

    static String at(CashBalls x) {
        Look look = new Look(x);
        look.all();
        if (look.calls > MOST_CALLS) {
            throw new IllegalStateException("a look of " + look.calls + " calls is too long");
        }
        return look.text.toString();
    }

    private void put(String name, long answer) {
        calls++;
        text.append(name).append('=').append(answer).append(' ');
    }

    private void all() {
        int counters = x.count(0);
        int balls = x.count(1);
        for (int what = 2; what <= 13; what++) {
            put("count" + what, x.count(what));
        }
        for (int counter = 0; counter < counters; counter++) {
            put("place" + counter, x.counter(counter, 0));
            put("gap" + counter, x.counter(counter, 1));
        }
        for (int ball = 0; ball < balls; ball++) {
            for (int what = 0; what <= 5; what++) {
                put("ball" + ball + "." + what, x.ball(ball, what));
            }
            put("back" + ball, x.back(ball));
            put("trip" + ball, x.trip(ball));
            put("tomorrow" + ball, x.later(ball, 1));
            put("later" + ball, x.later(ball, 14));
        }
        for (int i = 0; i < balls; i++) {
            put("row" + i, x.row(i));
        }
        for (int what = 0; what <= 2; what++) {
            put("judged" + what, x.judged(what));
        }
        put("who", x.who());
        for (int i = 0; i < 17 && x.undo(); i++) {
            calls++;
            put("undone", i);
            briefly(counters, balls);
        }
        for (int mark = 0; mark <= 3; mark++) {
            boolean laid = x.mark(mark, true);
            put("mark" + mark, laid ? 1 : 0);
            if (laid) {
                briefly(counters, balls);
                put("lines", x.count(10));
                put("who", x.who());
            }
        }
        put("tape", x.shop());
        put("counters", x.count(0));
    }

    private void briefly(int counters, int balls) {
        put("day", x.count(2));
        put("beat", x.count(3));
        put("out", x.count(6));
        for (int counter = 0; counter < counters; counter++) {
            put("gap", x.counter(counter, 1));
        }
        for (int ball = 0; ball < balls; ball++) {
            put("size", x.ball(ball, 1));
            put("rests", x.ball(ball, 3));
        }
    }
}
