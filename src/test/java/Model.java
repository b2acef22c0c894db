import java.util.ArrayDeque;
import java.util.ArrayList;
import java.util.Arrays;
import java.util.Collections;
import java.util.Comparator;
import java.util.Deque;
import java.util.LinkedHashMap;
import java.util.List;
import java.util.Map;
import java.util.NoSuchElementException;
import java.util.TreeSet;
import java.util.function.BiPredicate;
import java.util.function.IntUnaryOperator;
import java.util.function.ToIntFunction;

/** The document once more, as slow and plain as can be, for the class to be compared with. */
final class Model {
    static final int NONE = -1;
    static final int PIT = 6;

    /** What the law of wear knows of a ball and a day. */
    record Facts(int width, int runs, int wet, int date) { }

    static final class Ball {
        String name;
        int kind;
        int told;
        int home;
    }

    static final class Counter {
        String name;
        int place;
        int told;
    }

    static final class Told {
        List<Counter> counters = new ArrayList<>();
        List<Ball> balls = new ArrayList<>();
        Integer desk;
        List<Integer> damp = new ArrayList<>();
        ToIntFunction<Facts> wears;
    }

    record Line(String word, int first, int second) { }

    record Sight(int counter, int days, boolean fell) { }

    /** One ball's life: w is r(est), o(ut), q(ueue), b(ack). */
    record Life(char w, int spot, int togo, int size, int sent) { }

    record World(int day, int beat, List<Integer> gaps, List<Life> lives, List<Integer> row, int served) { }

    record Held(World world, List<Line> run, List<Sight> seen) { }

    private static final List<String> KINDS = List.of("plain", "oak", "willow", "cork");
    private static final List<String> RESERVED = List.of("counter", "at", "gap", "ball", "size", "home", "desk",
        "damp", "wears", "beat", "send", "set", "carry", "day", "plain", "oak", "willow", "cork", "not", "and", "or");

    StringBuilder tape = new StringBuilder();
    Told told = new Told();
    World world = begin(told);
    List<Line> run = List.of();
    List<Sight> seen = new ArrayList<>();
    Deque<World> past = new ArrayDeque<>();
    Map<Integer, Held> marks = new LinkedHashMap<>();

    // ---- the tape

    int feed(long... longs) {
        for (long l : longs) {
            for (byte b : java.nio.ByteBuffer.allocate(8).putLong(l).array()) {
                if ((b == 10 || b >= 32 && b <= 126) && tape.length() < 1000) {
                    tape.append((char) b);
                }
            }
        }
        return tape.length();
    }

    static final class Fault extends Exception {
        private static final long serialVersionUID = 1L;
        final int code;

        Fault(int kind, int place) {
            code = kind + 16 * place;
        }
    }

    record Token(String text, int place) {
        boolean word() {
            return text.matches("[a-z]{1,8}");
        }

        boolean number() {
            return text.matches("[0-9]{1,4}");
        }

        boolean name() {
            return word() && !RESERVED.contains(text);
        }

        int value() {
            return Integer.parseInt(text);
        }
    }

    static List<Token> tokens(String text) {
        List<Token> all = new ArrayList<>();
        java.util.regex.Matcher m = java.util.regex.Pattern.compile("[a-z]+|[0-9]+|[^ \\n]").matcher(text);
        while (m.find()) {
            all.add(new Token(m.group(), m.start()));
        }
        all.add(new Token("", text.length()));
        return all;
    }

    static final class Parser {
        final List<Token> all;
        int i = 0;

        Parser(String text) {
            all = tokens(text);
        }

        Token peek() {
            return all.get(i);
        }

        boolean at(String text) {
            return peek().text().equals(text);
        }

        void need(boolean good, int kind) throws Fault {
            if (!good) {
                throw new Fault(kind, peek().place());
            }
        }

        void expect(String text) throws Fault {
            need(at(text), 1);
            i++;
        }

        int number(int least, int most) throws Fault {
            need(peek().number(), 1);
            need(peek().value() >= least && peek().value() <= most, 4);
            return all.get(i++).value();
        }

        int told(List<String> names) throws Fault {
            need(peek().name(), 1);
            need(names.contains(peek().text()), 2);
            return names.indexOf(all.get(i++).text());
        }

        ToIntFunction<Facts> e(int deep) throws Fault {
            ToIntFunction<Facts> left = test(deep);
            while (at("and") || at("or")) {
                boolean and = at("and");
                i++;
                ToIntFunction<Facts> a = left;
                ToIntFunction<Facts> b = test(deep);
                left = f -> {
                    boolean x = a.applyAsInt(f) != 0;
                    boolean y = b.applyAsInt(f) != 0;
                    return (and ? x && y : x || y) ? 1 : 0;
                };
            }
            return left;
        }

        ToIntFunction<Facts> test(int deep) throws Fault {
            ToIntFunction<Facts> a = sum(deep);
            if (!at("<") && !at("=")) {
                return a;
            }
            BiPredicate<Integer, Integer> holds = at("<") ? (x, y) -> x < y : (x, y) -> x.intValue() == y.intValue();
            i++;
            ToIntFunction<Facts> b = sum(deep);
            return f -> holds.test(a.applyAsInt(f), b.applyAsInt(f)) ? 1 : 0;
        }

        ToIntFunction<Facts> sum(int deep) throws Fault {
            ToIntFunction<Facts> left = product(deep);
            while (at("+") || at("-")) {
                int sign = at("+") ? 1 : -1;
                i++;
                ToIntFunction<Facts> a = left;
                ToIntFunction<Facts> b = product(deep);
                left = f -> a.applyAsInt(f) + sign * b.applyAsInt(f);
            }
            return left;
        }

        ToIntFunction<Facts> product(int deep) throws Fault {
            ToIntFunction<Facts> left = part(deep);
            while (at("*")) {
                i++;
                ToIntFunction<Facts> a = left;
                ToIntFunction<Facts> b = part(deep);
                left = f -> a.applyAsInt(f) * b.applyAsInt(f);
            }
            return left;
        }

        ToIntFunction<Facts> part(int deep) throws Fault {
            Token t = peek();
            need(t.number() || List.of("width", "runs", "wet", "date", "not", "(").contains(t.text()), 1);
            need(deep < 5, 5);
            i++;
            if (t.number()) {
                return f -> t.value();
            }
            switch (t.text()) {
                case "width":
                    return Facts::width;
                case "runs":
                    return Facts::runs;
                case "wet":
                    return Facts::wet;
                case "date":
                    return Facts::date;
                case "not": {
                    ToIntFunction<Facts> inner = part(deep + 1);
                    return f -> inner.applyAsInt(f) == 0 ? 1 : 0;
                }
                default: {
                    ToIntFunction<Facts> inner = e(deep + 1);
                    expect(")");
                    return inner;
                }
            }
        }
    }

    static List<String> counterNames(Told t) {
        return t.counters.stream().map(c -> c.name).toList();
    }

    static List<String> ballNames(Told t) {
        return t.balls.stream().map(b -> b.name).toList();
    }

    static void newName(Parser p, Told t) throws Fault {
        p.need(p.peek().name(), 1);
        p.need(!counterNames(t).contains(p.peek().text()) && !ballNames(t).contains(p.peek().text()), 3);
    }

    static Told parseShop(String text) throws Fault {
        Parser p = new Parser(text);
        Told t = new Told();
        while (!p.at("")) {
            p.need(List.of("counter", "ball", "desk", "damp", "wears").contains(p.peek().text()), 1);
            switch (p.peek().text()) {
                case "counter": {
                    p.need(t.counters.size() < 6, 5);
                    p.i++;
                    newName(p, t);
                    Counter c = new Counter();
                    c.name = p.all.get(p.i++).text();
                    p.expect("at");
                    c.place = p.number(1, 20);
                    p.i--;
                    p.need(t.counters.stream().noneMatch(o -> o.place == c.place), 3);
                    p.i++;
                    p.expect("gap");
                    c.told = p.number(0, 60);
                    t.counters.add(c);
                    break;
                }
                case "ball": {
                    p.need(t.balls.size() < 6, 5);
                    p.i++;
                    newName(p, t);
                    Ball b = new Ball();
                    b.name = p.all.get(p.i++).text();
                    p.need(KINDS.contains(p.peek().text()), 1);
                    b.kind = KINDS.indexOf(p.all.get(p.i++).text());
                    p.expect("size");
                    b.told = p.number(1, 60);
                    p.expect("home");
                    b.home = p.told(counterNames(t));
                    t.balls.add(b);
                    break;
                }
                case "desk":
                    p.need(t.desk == null, 3);
                    p.i++;
                    t.desk = p.number(1, 9);
                    break;
                case "damp":
                    p.need(t.damp.isEmpty(), 3);
                    p.i++;
                    t.damp.add(p.number(0, 9));
                    while (p.peek().number()) {
                        int damp = p.number(0, 9);
                        p.i--;
                        p.need(t.damp.size() < 12, 5);
                        p.i++;
                        t.damp.add(damp);
                    }
                    break;
                default:
                    p.need(t.wears == null, 3);
                    p.i++;
                    t.wears = p.e(0);
                    break;
            }
            p.expect(";");
        }
        return t;
    }

    static List<Line> parseRun(String text, Told t) throws Fault {
        Parser p = new Parser(text);
        List<Line> all = new ArrayList<>();
        while (!p.at("")) {
            String word = p.peek().text();
            p.need(List.of("beat", "send", "set", "carry", "day").contains(word), 1);
            p.need(all.size() < 40, 5);
            p.i++;
            int first = 0;
            int second = 0;
            if (word.equals("send")) {
                first = p.told(ballNames(t));
            } else if (word.equals("carry")) {
                first = p.told(ballNames(t));
                second = p.told(counterNames(t));
            } else if (word.equals("set")) {
                first = p.told(counterNames(t));
                second = p.number(0, 60);
            }
            p.expect(";");
            all.add(new Line(word, first, second));
        }
        return all;
    }

    int shop() {
        String text = tape.toString();
        tape.setLength(0);
        try {
            told = parseShop(text);
        } catch (Fault f) {
            return f.code;
        }
        world = begin(told);
        run = List.of();
        seen = new ArrayList<>();
        past.clear();
        marks.clear();
        return 0;
    }

    int run() {
        String text = tape.toString();
        tape.setLength(0);
        try {
            run = parseRun(text, told);
        } catch (Fault f) {
            return f.code;
        }
        return 0;
    }

    // ---- the world

    static World begin(Told t) {
        List<Integer> gaps = t.counters.stream().map(c -> c.told).toList();
        List<Life> lives = t.balls.stream().map(b -> new Life('r', b.home, 0, b.told, 0)).toList();
        return new World(0, 0, gaps, lives, List.of(), 0);
    }

    int fall(int size, List<Integer> gaps) {
        List<Integer> rail = new ArrayList<>();
        for (int i = 0; i < told.counters.size(); i++) {
            rail.add(i);
        }
        rail.sort(Comparator.comparing(i -> told.counters.get(i).place));
        return rail.stream().filter(i -> gaps.get(i) >= size).findFirst().orElse(PIT);
    }

    int beats(int ball, int spot) {
        int place = spot == PIT ? told.counters.stream().mapToInt(c -> c.place).max().orElse(0) + 1
            : told.counters.get(spot).place;
        return told.balls.get(ball).kind == 3 ? 2 * place : place;
    }

    boolean isBall(int ball) {
        return ball >= 0 && ball < told.balls.size();
    }

    boolean isCounter(int counter) {
        return counter >= 0 && counter < told.counters.size();
    }

    static <T> List<T> with(List<T> list, int i, T x) {
        List<T> copy = new ArrayList<>(list);
        copy.set(i, x);
        return copy;
    }

    /** null: it can't be. */
    World sent(World w, int ball) {
        if (!isBall(ball)) {
            return null;
        }
        Life l = w.lives().get(ball);
        if (l.w() != 'r' || l.spot() == PIT) {
            return null;
        }
        Life out = new Life('o', l.spot(), beats(ball, l.spot()), l.size(), l.sent() + 1);
        return new World(w.day(), w.beat(), w.gaps(), with(w.lives(), ball, out), w.row(), w.served());
    }

    World carried(World w, int ball, int counter) {
        if (!isBall(ball) || !isCounter(counter)) {
            return null;
        }
        Life l = w.lives().get(ball);
        if (l.w() != 'r' || l.spot() == counter) {
            return null;
        }
        Life there = new Life('r', counter, 0, l.size(), l.sent());
        return new World(w.day(), w.beat(), w.gaps(), with(w.lives(), ball, there), w.row(), w.served());
    }

    World gapSet(World w, int counter, int gap) {
        if (!isCounter(counter) || gap < 0 || gap > 60) {
            return null;
        }
        return new World(w.day(), w.beat(), with(w.gaps(), counter, gap), w.lives(), w.row(), w.served());
    }

    World beaten(World w) {
        List<Life> lives = new ArrayList<>(w.lives());
        List<Integer> row = new ArrayList<>(w.row());
        int served = w.served();
        int desk = told.desk == null ? 2 : told.desk;
        if (!w.row().isEmpty()) {
            served++;
            if (served == desk) {
                served = 0;
                int ball = row.remove(0);
                Life l = w.lives().get(ball);
                int spot = fall(l.size(), w.gaps());
                lives.set(ball, new Life('b', spot, beats(ball, spot), l.size(), l.sent()));
            }
        }
        for (int ball = 0; ball < lives.size(); ball++) {
            Life l = w.lives().get(ball);
            if (l.w() == 'b') {
                lives.set(ball, new Life(l.togo() == 1 ? 'r' : 'b', l.spot(), l.togo() - 1, l.size(), l.sent()));
            } else if (l.w() == 'o') {
                lives.set(ball, new Life(l.togo() == 1 ? 'q' : 'o', l.spot(), l.togo() - 1, l.size(), l.sent()));
                if (l.togo() == 1) {
                    row.add(ball);
                }
            }
        }
        return new World(w.day(), w.beat() + 1, w.gaps(), lives, row, served);
    }

    int newlyAtRest(World from, World to) {
        int bits = 0;
        for (int ball = 0; ball < told.balls.size(); ball++) {
            if (from.lives().get(ball).w() != 'r' && to.lives().get(ball).w() == 'r') {
                bits += 1 << ball;
            }
        }
        return bits;
    }

    static boolean still(World w) {
        return w.lives().stream().allMatch(l -> l.w() == 'r');
    }

    int wetOn(int day) {
        return told.damp.isEmpty() ? 0 : told.damp.get(day % told.damp.size());
    }

    int worn(int ball, Facts f) {
        int loss = told.wears == null ? 0 : told.wears.applyAsInt(f);
        loss = Math.max(-9, Math.min(9, loss));
        int kind = told.balls.get(ball).kind;
        if (kind == 1) {
            loss = Integer.signum(loss);
        }
        int size = f.width();
        for (int i = 0; i < (kind == 2 ? 2 : 1); i++) {
            size -= loss;
        }
        return Math.max(1, Math.min(60, size));
    }

    World dayGone(World at) {
        World w = at;
        while (!still(w)) {
            w = beaten(w);
        }
        List<Life> lives = new ArrayList<>();
        for (int ball = 0; ball < w.lives().size(); ball++) {
            Life l = w.lives().get(ball);
            int size = worn(ball, new Facts(l.size(), l.sent(), wetOn(w.day()), w.day()));
            lives.add(new Life('r', l.spot(), 0, size, 0));
        }
        return new World(w.day() + 1, 0, w.gaps(), lives, w.row(), w.served());
    }

    int bits(java.util.function.IntPredicate p, int many) {
        int bits = 0;
        for (int i = 0; i < many; i++) {
            bits += p.test(i) ? 1 << i : 0;
        }
        return bits;
    }

    int astray(World w) {
        return bits(b -> w.lives().get(b).w() == 'r' && w.lives().get(b).spot() != told.balls.get(b).home,
            told.balls.size());
    }

    int inState(char state) {
        return bits(b -> world.lives().get(b).w() == state, told.balls.size());
    }

    // ---- by hand

    void go(World next) {
        past.addLast(world);
        if (past.size() > 16) {
            past.removeFirst();
        }
        world = next;
    }

    int send(int ball) {
        World next = sent(world, ball);
        if (next == null) {
            return NONE;
        }
        int from = world.lives().get(ball).spot();
        go(next);
        return from;
    }

    int beat() {
        World from = world;
        go(beaten(world));
        return newlyAtRest(from, world);
    }

    int set(int counter, int gap) {
        World next = gapSet(world, counter, gap);
        if (next == null) {
            return NONE;
        }
        int ahead = world.gaps().get(counter);
        go(next);
        return ahead;
    }

    int carry(int ball, int counter) {
        World next = carried(world, ball, counter);
        if (next == null) {
            return NONE;
        }
        int from = world.lives().get(ball).spot();
        go(next);
        return from;
    }

    int day() {
        int beats = rest();
        go(dayGone(world));
        return beats;
    }

    boolean undo() {
        if (past.isEmpty()) {
            return false;
        }
        world = past.removeLast();
        return true;
    }

    int counter(int counter, int what) {
        if (!isCounter(counter) || what < 0 || what > 2) {
            return NONE;
        }
        return what == 0 ? told.counters.get(counter).place : what == 1 ? world.gaps().get(counter)
            : bits(b -> world.lives().get(b).w() == 'r' && world.lives().get(b).spot() == counter,
                told.balls.size());
    }

    int ball(int ball, int what) {
        if (!isBall(ball) || what < 0 || what > 5) {
            return -2;
        }
        Ball b = told.balls.get(ball);
        Life l = world.lives().get(ball);
        int[] all = {b.kind, l.size(), b.home, l.w() == 'r' ? l.spot() : NONE, "roqb".indexOf(l.w()), l.sent()};
        return all[what];
    }

    int judged(int what) {
        if (what < 0 || what > 2) {
            return -2;
        }
        int[] answer = {NONE, NONE, 0};
        World w = begin(told);
        for (int i = 0; i < run.size(); i++) {
            Line l = run.get(i);
            World next = switch (l.word()) {
                case "beat" -> beaten(w);
                case "send" -> sent(w, l.first());
                case "set" -> gapSet(w, l.first(), l.second());
                case "carry" -> carried(w, l.first(), l.second());
                default -> dayGone(w);
            };
            if (next == null && answer[0] == NONE) {
                answer[0] = i;
            }
            w = next == null ? w : next;
            if (astray(w) != 0 && answer[1] == NONE) {
                answer[1] = i;
            }
        }
        answer[2] = Integer.bitCount(astray(w));
        return answer[what];
    }

    // ---- sizes and gaps

    int size(int ball) {
        return world.lives().get(ball).size();
    }

    int falls(int ball) {
        return isBall(ball) ? fall(size(ball), world.gaps()) : NONE;
    }

    int catches(int size) {
        return size >= 1 && size <= 60 ? fall(size, world.gaps()) : NONE;
    }

    TreeSet<Integer> sizesOf(int counter) {
        TreeSet<Integer> sizes = new TreeSet<>();
        for (int size = 1; size <= 60; size++) {
            if (fall(size, world.gaps()) == counter) {
                sizes.add(size);
            }
        }
        return sizes;
    }

    int span(int counter, int what) {
        if (!isCounter(counter) || what < 0 || what > 1 || sizesOf(counter).isEmpty()) {
            return NONE;
        }
        return what == 0 ? sizesOf(counter).first() : sizesOf(counter).last();
    }

    int idle() {
        return bits(c -> sizesOf(c).isEmpty(), told.counters.size());
    }

    int lost() {
        return bits(b -> falls(b) == PIT, told.balls.size());
    }

    int twins() {
        int pairs = 0;
        for (int a = 0; a < told.balls.size(); a++) {
            for (int b = 0; b < a; b++) {
                pairs += falls(a) == falls(b) && falls(a) != PIT ? 1 : 0;
            }
        }
        return pairs;
    }

    int crowd() {
        int[] many = new int[7];
        for (int b = 0; b < told.balls.size(); b++) {
            many[falls(b)]++;
        }
        int most = Arrays.stream(many, 0, 6).max().getAsInt();
        for (int c = 0; c < 6; c++) {
            if (many[c] == most && most > 0) {
                return c;
            }
        }
        return NONE;
    }

    int shave(int ball) {
        if (!isBall(ball)) {
            return NONE;
        }
        return sizesOf(told.balls.get(ball).home).stream().mapToInt(s -> Math.abs(s - size(ball))).min().orElse(NONE);
    }

    int goHome(List<Integer> gaps) {
        int many = 0;
        for (int b = 0; b < told.balls.size(); b++) {
            many += fall(size(b), gaps) == told.balls.get(b).home ? 1 : 0;
        }
        return many;
    }

    private List<Integer> bestRow;
    private int bestMany;

    private void tryRows(List<Integer> rail, int i, List<Integer> gaps, TreeSet<Integer> choices) {
        if (i == rail.size()) {
            int many = goHome(gaps);
            if (many > bestMany) {
                bestMany = many;
                bestRow = new ArrayList<>(gaps);
            }
            return;
        }
        for (int gap : choices) {
            gaps.set(rail.get(i), gap);
            tryRows(rail, i + 1, gaps, choices);
        }
    }

    int trim(int what) {
        if (what != NONE && !isCounter(what)) {
            return -2;
        }
        List<Integer> rail = new ArrayList<>();
        TreeSet<Integer> choices = new TreeSet<>();
        for (int i = 0; i < told.counters.size(); i++) {
            rail.add(i);
        }
        rail.sort(Comparator.comparing(i -> told.counters.get(i).place));
        // a gap between two sizes catches what the next lesser size catches, so with many counters only those are tried
        choices.add(0);
        for (int b = 0; b < told.balls.size(); b++) {
            choices.add(size(b));
        }
        for (int gap = 0; gap <= 60 && rail.size() <= 2; gap++) {
            choices.add(gap);
        }
        bestMany = -1;
        tryRows(rail, 0, new ArrayList<>(Collections.nCopies(rail.size(), 0)), choices);
        return what == NONE ? bestMany : bestRow.get(what);
    }

    int swap() {
        int best = NONE;
        int most = goHome(world.gaps());
        for (int a = 0; a < told.counters.size(); a++) {
            for (int b = a + 1; b < told.counters.size(); b++) {
                List<Integer> gaps = new ArrayList<>(world.gaps());
                Collections.swap(gaps, a, b);
                if (goHome(gaps) > most) {
                    most = goHome(gaps);
                    best = 8 * a + b;
                }
            }
        }
        return best;
    }

    // ---- beats going by

    int backIn(World at, int ball) {
        int beats = 0;
        for (World w = at; w.lives().get(ball).w() != 'r'; w = beaten(w)) {
            beats++;
        }
        return beats;
    }

    int back(int ball) {
        return isBall(ball) ? backIn(world, ball) : NONE;
    }

    int trip(int ball) {
        World w = sent(world, ball);
        return w == null ? NONE : backIn(w, ball);
    }

    int rest() {
        int most = 0;
        for (int b = 0; b < told.balls.size(); b++) {
            most = Math.max(most, back(b));
        }
        return most;
    }

    int row(int i) {
        return i >= 0 && i < world.row().size() ? world.row().get(i) : NONE;
    }

    int last() {
        for (int b = 0; b < told.balls.size(); b++) {
            if (back(b) > 0 && back(b) == rest()) {
                return b;
            }
        }
        return NONE;
    }

    // ---- days going by

    int sizeLater(int ball, int days) {
        World w = world;
        for (int i = 0; i < days; i++) {
            w = dayGone(w);
        }
        return w.lives().get(ball).size();
    }

    /** All sizes behind 0 to 60 days, as days of the world go by. */
    int[][] ahead() {
        int[][] sizes = new int[61][];
        World w = world;
        for (int i = 0; i <= 60; i++) {
            sizes[i] = w.lives().stream().mapToInt(Life::size).toArray();
            w = dayGone(w);
        }
        return sizes;
    }

    int later(int ball, int days) {
        return isBall(ball) && days >= 0 && days <= 60 ? sizeLater(ball, days) : NONE;
    }

    static int firstDay(java.util.function.IntPredicate p) {
        for (int i = 0; i <= 60; i++) {
            if (p.test(i)) {
                return i;
            }
        }
        return NONE;
    }

    int stray(int ball) {
        if (!isBall(ball)) {
            return NONE;
        }
        int[][] sizes = ahead();
        return firstDay(i -> fall(sizes[i][ball], world.gaps()) != told.balls.get(ball).home);
    }

    int first() {
        int first = NONE;
        for (int b = 0; b < told.balls.size(); b++) {
            if (stray(b) != NONE && (first == NONE || stray(b) < stray(first))) {
                first = b;
            }
        }
        return first;
    }

    int safe(int days) {
        return days < 0 || days > 60 ? NONE : bits(b -> stray(b) == NONE || stray(b) > days, told.balls.size());
    }

    int wide(int days) {
        if (days < 0 || days > 60 || told.balls.isEmpty()) {
            return NONE;
        }
        int[] sizes = ahead()[days];
        int most = Arrays.stream(sizes).max().getAsInt();
        int i = 0;
        while (sizes[i] != most) {
            i++;
        }
        return i;
    }

    int over(int ball, int size) {
        if (!isBall(ball) || size < 1 || size > 60) {
            return NONE;
        }
        int[][] sizes = ahead();
        return firstDay(i -> sizes[i][ball] >= size);
    }

    boolean see(int counter, int days, boolean fell) {
        if (!isCounter(counter) || days < 0 || days > 30 || seen.size() == 8) {
            return false;
        }
        seen.add(new Sight(counter, days, fell));
        return true;
    }

    int who() {
        int[][] sizes = ahead();
        return bits(b -> seen.stream().allMatch(s ->
            (fall(sizes[s.days()][b], world.gaps()) == s.counter()) == s.fell()), told.balls.size());
    }

    int ask() {
        int who = who();
        int[][] sizes = ahead();
        int all = Integer.bitCount(who);
        for (int most = 0; most < all; most++) {
            for (int d = 0; d <= 30; d++) {
                int days = d;
                for (int c = 0; c < told.counters.size(); c++) {
                    int counter = c;
                    int there = Integer.bitCount(who
                        & bits(b -> fall(sizes[days][b], world.gaps()) == counter, told.balls.size()));
                    if (Math.max(there, all - there) == most) {
                        return 8 * d + c;
                    }
                }
            }
        }
        return NONE;
    }

    // ---- chance, change, draws

    int chance(int ball, int days, int odds) {
        if (!isBall(ball) || days < 1 || days > 6 || odds < 0 || odds > 10) {
            return NONE;
        }
        long sum = 0;
        for (int pattern = 0; pattern < 1 << days; pattern++) {
            long weight = 1;
            int size = size(ball);
            for (int i = 0; i < days; i++) {
                boolean wet = (pattern >> i & 1) == 1;
                weight *= wet ? odds : 10 - odds;
                int runs = i == 0 ? world.lives().get(ball).sent() : 0;
                size = worn(ball, new Facts(size, runs, wet ? 9 : 0, world.day() + i));
            }
            sum += fall(size, world.gaps()) == told.balls.get(ball).home ? weight : 0;
        }
        long all = 1;
        for (int i = 0; i < days; i++) {
            all *= 10;
        }
        return (int) (sum * 1000000 / all);
    }

    int rests(int lose, int counts, int not, int what) {
        if (Math.min(lose, Math.min(counts, not)) < 0 || Math.max(lose, Math.max(counts, not)) > 9 || what < NONE) {
            throw new NoSuchElementException();
        }
        int[] mine = {0, not, counts, -lose};
        IntUnaryOperator turned = p -> (p & 1) * 2 + (p >> 1);
        List<Integer> rests = new ArrayList<>();
        for (int p = 0; p < 4; p++) {
            if (mine[p] >= mine[p ^ 2] && mine[turned.applyAsInt(p)] >= mine[turned.applyAsInt(p) ^ 2]) {
                rests.add(p);
            }
        }
        if (what >= rests.size()) {
            throw new NoSuchElementException();
        }
        return what == NONE ? rests.size() : rests.get(what);
    }

    private java.math.BigInteger g;

    private int draw(int below) {
        g = g.multiply(java.math.BigInteger.valueOf(1103515245)).add(java.math.BigInteger.valueOf(12345))
            .mod(java.math.BigInteger.valueOf(2147483648L));
        return g.divide(java.math.BigInteger.valueOf(65536)).mod(java.math.BigInteger.valueOf(below)).intValue();
    }

    int weeks(int seed, int many, int what) {
        if (seed < 0 || seed > 9999 || many < 1 || many > 99 || what < 0 || what > 2) {
            return NONE;
        }
        g = java.math.BigInteger.valueOf(seed);
        World w = world;
        int wrong = 0;
        for (int i = 0; i < many && !told.balls.isEmpty(); i++) {
            int luck = draw(8);
            if (luck < 4) {
                World next = sent(w, draw(told.balls.size()));
                w = next == null ? w : next;
                continue;
            }
            for (int beats = 0; luck == 7 ? !still(w) : beats < 1; beats++) {
                World next = beaten(w);
                wrong += Integer.bitCount(newlyAtRest(w, next) & astray(next));
                w = next;
            }
            w = luck == 7 ? dayGone(w) : w;
        }
        return what == 0 ? wrong : what == 1 ? astray(w) : w.lives().stream().mapToInt(Life::size).sum();
    }

    boolean mark(int mark, boolean back) {
        if (mark < 0 || mark > 3 || back && !marks.containsKey(mark)) {
            return false;
        }
        if (!back) {
            marks.put(mark, new Held(world, run, List.copyOf(seen)));
            return true;
        }
        world = marks.get(mark).world();
        run = marks.get(mark).run();
        seen = new ArrayList<>(marks.get(mark).seen());
        past.clear();
        return true;
    }

    int count(int what) {
        if (what < 0 || what > 13) {
            return NONE;
        }
        int[] all = {told.counters.size(), told.balls.size(), world.day(), world.beat(), wetOn(world.day()),
            world.row().size(), inState('o'), inState('b'), astray(world), told.desk == null ? 2 : told.desk,
            run.size(), seen.size(), past.size(), tape.length()};
        return all[what];
    }
}
