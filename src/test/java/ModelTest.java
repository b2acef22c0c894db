import java.util.ArrayList;
import java.util.List;
import java.util.NoSuchElementException;
import java.util.Random;

/** All promises: random runs of calls, each answer compared with the plain model's. */
final class ModelTest {
    private static final Due DUE = new Due();
    private static final String[] WORDS = {"counter", "at", "gap", "ball", "size", "home", "desk", "damp", "wears",
        "beat", "send", "set", "carry", "day", "plain", "oak", "willow", "cork", "not", "and", "or", "width", "runs",
        "wet", "date", "(", ")", "<", "=", "+", "-", "*", ";", "0", "1", "9", "10", "20", "21", "60", "61", "12345",
        "ca", "cb", "ba", "bb", "zz", "abcdefghi", "?", "A"};

    private final Random random;
    private final CashBalls x = new CashBalls();
    private final Model m = new Model();
    private int calls = 0;
    private String story = "";

    private ModelTest(long seed) {
        random = new Random(seed);
    }

    public static void main(String[] args) {
        int runs = args.length > 0 ? Integer.parseInt(args[0]) : 400;
        long from = args.length > 1 ? Long.parseLong(args[1]) : 0;
        for (long seed = from; seed < from + runs; seed++) {
            new ModelTest(seed).go();
        }
        DUE.end();
    }

    private void go() {
        tell(shopText());
        read(true);
        while (calls < 450) {
            int kind = random.nextInt(100);
            if (kind < 3) {
                tell(random.nextInt(3) == 0 ? spoiled(runText()) : runText());
                read(false);
            } else if (kind < 5) {
                tell(spoiled(shopText()));
                read(true);
            } else if (kind < 45) {
                act();
            } else {
                ask();
            }
        }
    }

    private void due(String call, long got, long want) {
        calls++;
        DUE.is(story + " .. " + call, got, want);
    }

    private void due(String call, boolean got, boolean want) {
        due(call, got ? 1 : 0, want ? 1 : 0);
    }

    private int below(int many) {
        return random.nextInt(many);
    }

    private String pick(String... all) {
        return all[below(all.length)];
    }

    // ---- texts

    private String shopText() {
        List<String> lines = new ArrayList<>();
        int counters = below(7);
        int balls = counters == 0 ? 0 : below(7);
        List<Integer> places = new ArrayList<>();
        StringBuilder text = new StringBuilder();
        for (int i = 0; i < counters; i++) {
            int place = 1 + below(20);
            while (places.contains(place)) {
                place = 1 + below(20);
            }
            places.add(place);
            int gap = below(3) == 0 ? below(61) : Math.min(60, place * 3 + below(4));
            text.append("counter c").append((char) ('a' + i)).append(" at ").append(place).append(" gap ").append(gap)
                .append(";");
        }
        for (int i = 0; i < balls; i++) {
            int home = below(counters);
            int size = below(3) == 0 ? 1 + below(60) : Math.max(1, Math.min(60, places.get(home) * 3 - below(3)));
            text.append("ball b").append((char) ('a' + i)).append(" ").append(pick("plain", "oak", "willow", "cork"))
                .append(" size ").append(size).append(" home c").append((char) ('a' + home)).append(";");
        }
        lines.add(text.toString());
        if (below(3) > 0) {
            lines.add(below(lines.size() + 1), "desk " + (1 + below(9)) + ";");
        }
        if (below(4) > 0) {
            StringBuilder damp = new StringBuilder("damp");
            for (int i = below(12); i >= 0; i--) {
                damp.append(" ").append(below(10));
            }
            lines.add(below(lines.size() + 1), damp + ";");
        }
        if (below(6) > 0) {
            lines.add(below(lines.size() + 1), "wears " + law() + ";");
        }
        return String.join(pick("", " ", "\n"), lines);
    }

    private String law() {
        if (below(2) == 0) {
            return pick("wet-5", "1-(3<wet)*3", "runs+1-(wet*(4<wet))+(width<4)", "date-date*(5<wet)", "1", "0-1",
                "(20<width)-(width<20)", "runs*2-1", "wet=9 or runs and not date");
        }
        return e(0);
    }

    private String e(int deep) {
        StringBuilder text = new StringBuilder(part(deep));
        for (int i = below(4); i > 0; i--) {
            text.append(pick("+", "-", "*", " and ", " or ", "+", "-")).append(part(deep));
        }
        if (below(4) == 0) {
            text.append(pick("<", "=")).append(part(deep));
        }
        return text.toString();
    }

    private String part(int deep) {
        int kind = below(deep < 4 ? 7 : 4);
        if (kind < 2) {
            return "" + below(12);
        }
        if (kind < 5) {
            return pick("width", "runs", "wet", "date");
        }
        return kind == 5 ? "not " + part(deep + 1) : "(" + e(deep + 1) + ")";
    }

    private String name(String kind, int many) {
        return kind + (char) ('a' + (below(12) == 0 || many == 0 ? below(7) : below(many)));
    }

    private String runText() {
        StringBuilder text = new StringBuilder();
        for (int i = below(15) == 0 ? 41 : below(25); i > 0; i--) {
            int counters = m.told.counters.size();
            int balls = m.told.balls.size();
            String line = pick("beat", "beat", "beat", "day", "send", "send", "send", "set", "carry");
            if (line.equals("send") && balls > 0) {
                line = "send " + name("b", balls);
            } else if (line.equals("set") && counters > 0) {
                line = "set " + name("c", counters) + " " + below(61);
            } else if (line.equals("carry") && balls > 0) {
                line = "carry " + name("b", balls) + " " + name("c", counters);
            }
            text.append(line).append(";");
        }
        return text.toString();
    }

    private String spoiled(String text) {
        StringBuilder spoilt = new StringBuilder(text);
        for (int i = 1 + below(2); i > 0; i--) {
            int from = below(spoilt.length() + 1);
            int kind = below(5);
            if (kind == 0) {
                spoilt.delete(from, Math.min(spoilt.length(), from + 1 + below(6)));
            } else if (kind == 1) {
                spoilt.insert(from, " " + WORDS[below(WORDS.length)] + " ");
            } else if (kind == 2 && from < spoilt.length()) {
                spoilt.setCharAt(from, (char) (32 + below(95)));
            } else if (kind == 3) {
                spoilt.setLength(from);
            } else {
                List<Model.Token> tokens = Model.tokens(spoilt.toString());
                Model.Token token = tokens.get(below(tokens.size()));
                spoilt.replace(token.place(), token.place() + token.text().length(), WORDS[below(WORDS.length)]);
            }
        }
        return spoilt.toString();
    }

    private void tell(String text) {
        story = "feed \"" + text.replace("\n", "\\n") + "\"";
        for (int i = 0; i < text.length(); i += 24) {
            long[] abc = new long[3];
            for (int j = 0; j < 24; j++) {
                abc[j / 8] = abc[j / 8] << 8 | (i + j < text.length() ? text.charAt(i + j) : below(10));
            }
            due("feed", x.feed(abc[0], abc[1], abc[2]), m.feed(abc));
        }
    }

    private void read(boolean shop) {
        if (shop) {
            due("shop()", x.shop(), m.shop());
        } else {
            due("run()", x.run(), m.run());
            for (int what = -1; what <= 3; what++) {
                due("judged(" + what + ")", x.judged(what), m.judged(what));
            }
        }
    }

    // ---- calls

    /** Mostly one that is there. */
    private int ball() {
        return below(10) == 0 ? stranger() : below(Math.max(1, m.told.balls.size()));
    }

    private int counter() {
        return below(10) == 0 ? stranger() : below(Math.max(1, m.told.counters.size()));
    }

    private int stranger() {
        int[] far = {Integer.MIN_VALUE, Integer.MAX_VALUE, -61, 61, 1 << 16};
        return below(3) == 0 ? far[below(far.length)] : below(10) - 2;
    }

    private void act() {
        int b = ball();
        int c = counter();
        int gap = below(20) == 0 ? 60 * stranger() : below(61);
        int k = below(20) == 0 ? stranger() : below(4);
        boolean yes = random.nextBoolean();
        int days = below(20) == 0 ? 31 * stranger() : below(31);
        switch (below(14)) {
            case 0, 1, 2, 3 -> due("send(" + b + ")", x.send(b), m.send(b));
            case 4, 5, 6, 7 -> due("beat()", x.beat(), m.beat());
            case 8 -> due("set(" + c + ", " + gap + ")", x.set(c, gap), m.set(c, gap));
            case 9 -> due("carry(" + b + ", " + c + ")", x.carry(b, c), m.carry(b, c));
            case 10 -> due("day()", x.day(), m.day());
            case 11 -> due("undo()", x.undo(), m.undo());
            case 12 -> due("mark(" + k + ", " + yes + ")", x.mark(k, yes), m.mark(k, yes));
            default -> due("see(" + c + ", " + days + ", " + yes + ")", x.see(c, days, yes), m.see(c, days, yes));
        }
    }

    private void ask() {
        int b = ball();
        int c = counter();
        int size = below(8) == 0 ? 61 * stranger() : 1 + below(60);
        int days = below(8) == 0 ? 61 * stranger() : below(61);
        int few = below(8) == 0 ? stranger() : 1 + below(6);
        int odds = below(8) == 0 ? 11 * stranger() : below(11);
        int what = below(8) == 0 ? 14 * stranger() : below(14);
        int i = below(8) == 0 ? stranger() : below(8) - 2;
        switch (below(30)) {
            case 0 -> due("counter(" + c + ", " + i + ")", x.counter(c, i), m.counter(c, i));
            case 1, 2 -> due("ball(" + b + ", " + i + ")", x.ball(b, i), m.ball(b, i));
            case 3 -> due("judged(" + i + ")", x.judged(i), m.judged(i));
            case 4 -> due("falls(" + b + ")", x.falls(b), m.falls(b));
            case 5 -> due("catches(" + size + ")", x.catches(size), m.catches(size));
            case 6 -> due("span(" + c + ", " + i + ")", x.span(c, i), m.span(c, i));
            case 7 -> due("idle()", x.idle(), m.idle());
            case 8 -> due("lost()", x.lost(), m.lost());
            case 9 -> due("twins()", x.twins(), m.twins());
            case 10 -> due("crowd()", x.crowd(), m.crowd());
            case 11 -> due("shave(" + b + ")", x.shave(b), m.shave(b));
            case 12 -> trim(i);
            case 13 -> due("swap()", x.swap(), m.swap());
            case 14 -> due("back(" + b + ")", x.back(b), m.back(b));
            case 15 -> due("trip(" + b + ")", x.trip(b), m.trip(b));
            case 16 -> due("rest()", x.rest(), m.rest());
            case 17 -> due("row(" + i + ")", x.row(i), m.row(i));
            case 18 -> due("last()", x.last(), m.last());
            case 19 -> due("later(" + b + ", " + days + ")", x.later(b, days), m.later(b, days));
            case 20 -> due("stray(" + b + ")", x.stray(b), m.stray(b));
            case 21 -> due("first()", x.first(), m.first());
            case 22 -> due("safe(" + days + ")", x.safe(days), m.safe(days));
            case 23 -> due("wide(" + days + ")", x.wide(days), m.wide(days));
            case 24 -> due("over(" + b + ", " + size + ")", x.over(b, size), m.over(b, size));
            case 25 -> due("who()", x.who(), m.who());
            case 26 -> due("ask()", x.ask(), m.ask());
            case 27 -> due("chance(" + b + ", " + few + ", " + odds + ")", x.chance(b, few, odds),
                m.chance(b, few, odds));
            case 28 -> draws();
            default -> due("count(" + what + ")", x.count(what), m.count(what));
        }
    }

    private void trim(int i) {
        // the model tries all rows: a large shop is asked seldom
        if (m.told.counters.size() < 5 || below(6) == 0) {
            due("trim(" + i + ")", x.trim(i), m.trim(i));
        }
    }

    private void draws() {
        int seed = below(10) == 0 ? 10000 * stranger() : below(10000);
        int many = below(10) == 0 ? 100 * stranger() : 1 + below(99);
        int what = below(10) == 0 ? stranger() : below(3);
        due("weeks(" + seed + ", " + many + ", " + what + ")", x.weeks(seed, many, what), m.weeks(seed, many, what));
        int lose = below(11) - below(2);
        int counts = below(11) - below(2);
        int not = below(11) - below(2);
        int which = below(8) == 0 ? stranger() : below(5) - 1;
        due("rests(" + lose + ", " + counts + ", " + not + ", " + which + ")", rests(lose, counts, not, which, false),
            rests(lose, counts, not, which, true));
    }

    private int rests(int lose, int counts, int not, int what, boolean model) {
        try {
            return model ? m.rests(lose, counts, not, what) : x.rests(lose, counts, not, what);
        } catch (NoSuchElementException e) {
            return -99;
        }
    }
}
