import java.util.NoSuchElementException;

/** The cash balls of a draper's shop: told on a tape, done by hand, judged, and foreseen. */
public final class CashBalls {
    /** None. */
    public static final int NONE = -1;

    private static final int OTHERS = -2;
    private static final int PIT = 6;
    private static final int MOST_COUNTERS = 6;
    private static final int MOST_BALLS = 6;
    private static final int MOST_SIGNS = 1000;
    private static final int MOST_LINES = 40;
    private static final int MOST_DAMPS = 12;
    private static final int MOST_UNDONE = 16;
    private static final int MOST_SEEN = 8;
    private static final int MOST_SEEN_DAYS = 30;
    private static final int MOST_DAYS = 60;
    private static final int MOST_ODD_DAYS = 6;
    private static final int MOST_MARKS = 4;
    private static final int FARTHEST = 20;
    private static final int LARGEST = 60;

    private static final int PLAIN = 0;
    private static final int OAK = 1;
    private static final int WILLOW = 2;
    private static final int CORK = 3;

    private static final int RESTING = 0;
    private static final int OUT = 1;
    private static final int IN_ROW = 2;
    private static final int COMING = 3;

    private static final int DO_BEAT = 0;
    private static final int DO_SEND = 1;
    private static final int DO_SET = 2;
    private static final int DO_CARRY = 3;
    private static final int DO_DAY = 4;

    private final Tape tape = new Tape();
    private final Shop shop = new Shop();
    private final Shop draftShop = new Shop();
    private final Lines lines = new Lines();
    private final Lines draftLines = new Lines();
    private final Reader reader = new Reader(tape);
    private final State now = new State(shop);
    private final State trial = new State(shop);
    private final Past past = new Past(shop);
    private final Seen seen = new Seen();
    private final Mark[] marks = new Mark[MOST_MARKS];
    private final Foresight foresight = new Foresight(shop, now);
    private final Gaps gaps = new Gaps(shop, now);

    /** Nothing is told yet. */
    public CashBalls() {
        for (int i = 0; i < MOST_MARKS; i++) {
            marks[i] = new Mark(shop);
        }
    }

    public int feed(long a, long b, long c) {
        tape.addBytes(a);
        tape.addBytes(b);
        tape.addBytes(c);
        return tape.length;
    }

    public int shop() {
        int fault = reader.readShop(draftShop);
        if (fault == 0) {
            shop.take(draftShop);
            now.open();
            lines.count = 0;
            seen.count = 0;
            past.count = 0;
            for (int i = 0; i < MOST_MARKS; i++) {
                marks[i].laid = false;
            }
        }
        return fault;
    }

    public int run() {
        int fault = reader.readRun(shop, draftLines);
        if (fault == 0) {
            lines.take(draftLines);
        }
        return fault;
    }

    public int counter(int counter, int what) {
        if (!shop.hasCounter(counter)) {
            return NONE;
        }
        switch (what) {
            case 0:
                return shop.places[counter];
            case 1:
                return now.gaps[counter];
            case 2:
                return now.basket(counter);
            default:
                return NONE;
        }
    }

    public int ball(int ball, int what) {
        if (!shop.hasBall(ball)) {
            return OTHERS;
        }
        switch (what) {
            case 0:
                return shop.kinds[ball];
            case 1:
                return now.sizes[ball];
            case 2:
                return shop.homes[ball];
            case 3:
                return now.phases[ball] == RESTING ? now.spots[ball] : NONE;
            case 4:
                return now.phases[ball];
            case 5:
                return now.sent[ball];
            default:
                return OTHERS;
        }
    }

    public int send(int ball) {
        if (!now.canSend(ball)) {
            return NONE;
        }
        past.keep(now);
        int from = now.spots[ball];
        now.sendOff(ball);
        return from;
    }

    public int beat() {
        past.keep(now);
        return now.passBeat();
    }

    public int set(int counter, int gap) {
        if (!now.canSet(counter, gap)) {
            return NONE;
        }
        past.keep(now);
        int ahead = now.gaps[counter];
        now.setGap(counter, gap);
        return ahead;
    }

    public int carry(int ball, int counter) {
        if (!now.canCarry(ball, counter)) {
            return NONE;
        }
        past.keep(now);
        int from = now.spots[ball];
        now.carryTo(ball, counter);
        return from;
    }

    public int day() {
        past.keep(now);
        return now.passDay();
    }

    public boolean undo() {
        return past.giveBack(now);
    }

    public int judged(int what) {
        if (!within(what, 0, 2)) {
            return OTHERS;
        }
        trial.open();
        int refused = NONE;
        int astray = NONE;
        for (int i = 0; i < lines.count; i++) {
            boolean could = lines.perform(i, trial);
            if (!could && refused == NONE) {
                refused = i;
            }
            if (astray == NONE && trial.astray() != 0) {
                astray = i;
            }
        }
        if (what == 2) {
            return Integer.bitCount(trial.astray());
        }
        return what == 0 ? refused : astray;
    }

    public int falls(int ball) {
        return shop.hasBall(ball) ? now.fallOf(ball) : NONE;
    }

    public int catches(int size) {
        return within(size, 1, LARGEST) ? shop.fall(size, now.gaps) : NONE;
    }

    public int span(int counter, int what) {
        if (!shop.hasCounter(counter) || !within(what, 0, 1)) {
            return NONE;
        }
        return what == 0 ? gaps.least(counter) : gaps.most(counter);
    }

    public int idle() {
        int bits = 0;
        for (int counter = 0; counter < shop.counters; counter++) {
            if (gaps.least(counter) == NONE) {
                bits |= 1 << counter;
            }
        }
        return bits;
    }

    public int lost() {
        return gaps.fallers(PIT);
    }

    public int twins() {
        int pairs = 0;
        for (int counter = 0; counter < shop.counters; counter++) {
            int many = Integer.bitCount(gaps.fallers(counter));
            pairs += many * (many - 1) / 2;
        }
        return pairs;
    }

    public int crowd() {
        int most = 0;
        int crowded = NONE;
        for (int counter = 0; counter < shop.counters; counter++) {
            int many = Integer.bitCount(gaps.fallers(counter));
            if (many > most) {
                most = many;
                crowded = counter;
            }
        }
        return crowded;
    }

    public int shave(int ball) {
        return shop.hasBall(ball) ? gaps.leastChange(ball) : NONE;
    }

    public int trim(int what) {
        if (what != NONE && !shop.hasCounter(what)) {
            return OTHERS;
        }
        int most = gaps.plan();
        return what == NONE ? most : gaps.planned[what];
    }

    public int swap() {
        return gaps.bestExchange();
    }

    public int back(int ball) {
        if (!shop.hasBall(ball)) {
            return NONE;
        }
        trial.take(now);
        return trial.passTillRests(ball);
    }

    public int trip(int ball) {
        if (!now.canSend(ball)) {
            return NONE;
        }
        trial.take(now);
        trial.sendOff(ball);
        return trial.passTillRests(ball);
    }

    public int rest() {
        trial.take(now);
        return trial.passTillAllRest();
    }

    public int row(int i) {
        return i >= 0 && i < now.inRow ? now.row[i] : NONE;
    }

    public int last() {
        int last = NONE;
        int most = 0;
        for (int ball = 0; ball < shop.balls; ball++) {
            trial.take(now);
            int beats = trial.passTillRests(ball);
            if (beats > most) {
                most = beats;
                last = ball;
            }
        }
        return last;
    }

    public int later(int ball, int days) {
        if (!shop.hasBall(ball) || !within(days, 0, MOST_DAYS)) {
            return NONE;
        }
        foresight.look(ball, days);
        return foresight.sizes[ball][days];
    }

    public int stray(int ball) {
        return shop.hasBall(ball) ? foresight.firstAstray(ball) : NONE;
    }

    public int first() {
        int soonest = MOST_DAYS + 1;
        int first = NONE;
        for (int ball = 0; ball < shop.balls; ball++) {
            int days = foresight.firstAstray(ball);
            if (days != NONE && days < soonest) {
                soonest = days;
                first = ball;
            }
        }
        return first;
    }

    public int safe(int days) {
        if (!within(days, 0, MOST_DAYS)) {
            return NONE;
        }
        int bits = 0;
        for (int ball = 0; ball < shop.balls; ball++) {
            int astray = foresight.firstAstray(ball);
            if (astray == NONE || astray > days) {
                bits |= 1 << ball;
            }
        }
        return bits;
    }

    public int wide(int days) {
        if (!within(days, 0, MOST_DAYS)) {
            return NONE;
        }
        int largest = 0;
        int widest = NONE;
        for (int ball = 0; ball < shop.balls; ball++) {
            foresight.look(ball, days);
            int size = foresight.sizes[ball][days];
            if (size > largest) {
                largest = size;
                widest = ball;
            }
        }
        return widest;
    }

    public int over(int ball, int size) {
        if (!shop.hasBall(ball) || !within(size, 1, LARGEST)) {
            return NONE;
        }
        return foresight.firstAsLarge(ball, size);
    }

    public boolean see(int counter, int days, boolean fell) {
        if (!shop.hasCounter(counter) || !within(days, 0, MOST_SEEN_DAYS)) {
            return false;
        }
        return seen.note(counter, days, fell);
    }

    public int who() {
        return seen.agreeing(foresight);
    }

    public int ask() {
        return foresight.bestQuestion(seen.agreeing(foresight));
    }

    public int chance(int ball, int days, int odds) {
        if (!shop.hasBall(ball) || !within(days, 1, MOST_ODD_DAYS) || !within(odds, 0, 10)) {
            return NONE;
        }
        return foresight.millionthsHome(ball, days, odds);
    }

    public int rests(int lose, int counts, int not, int what) throws NoSuchElementException {
        if (!within(lose, 0, 9) || !within(counts, 0, 9) || !within(not, 0, 9) || what < NONE) {
            throw new NoSuchElementException();
        }
        int many = 0;
        for (int both = 0; both < 4; both++) {
            if (isRest(both, lose, counts, not)) {
                if (many == what) {
                    return both;
                }
                many++;
            }
        }
        if (what != NONE) {
            throw new NoSuchElementException();
        }
        return many;
    }

    public int weeks(int seed, int many, int what) {
        if (!within(seed, 0, 9999) || !within(many, 1, 99) || !within(what, 0, 2)) {
            return NONE;
        }
        trial.take(now);
        trial.strays = 0;
        trial.passByDraws(seed, many);
        switch (what) {
            case 0:
                return trial.strays;
            case 1:
                return trial.astray();
            default:
                return trial.allSizes();
        }
    }

    public boolean mark(int mark, boolean back) {
        if (!within(mark, 0, MOST_MARKS - 1)) {
            return false;
        }
        if (!back) {
            marks[mark].lay(now, lines, seen);
            return true;
        }
        if (!marks[mark].laid) {
            return false;
        }
        marks[mark].goBack(now, lines, seen);
        past.count = 0;
        return true;
    }

    public int count(int what) {
        switch (what) {
            case 0:
                return shop.counters;
            case 1:
                return shop.balls;
            case 2:
                return now.day;
            case 3:
                return now.beat;
            case 4:
                return shop.dampOn(now.day);
            case 5:
                return now.inRow;
            case 6:
                return now.inPhase(OUT);
            case 7:
                return now.inPhase(COMING);
            case 8:
                return now.astray();
            case 9:
                return shop.desk;
            case 10:
                return lines.count;
            case 11:
                return seen.count;
            case 12:
                return past.count;
            case 13:
                return tape.length;
            default:
                return NONE;
        }
    }

    private static boolean within(int number, int least, int most) {
        return number >= least && number <= most;
    }

    private static int limited(int number, int least, int most) {
        return Math.max(least, Math.min(most, number));
    }

    /** Whether neither of the two would get more by his other choice; both is 2 * one's choice + the other's. */
    private static boolean isRest(int both, int lose, int counts, int not) {
        int one = both >> 1;
        int other = both & 1;
        return gain(one, other, lose, counts, not) >= gain(1 - one, other, lose, counts, not)
            && gain(other, one, lose, counts, not) >= gain(1 - other, one, lose, counts, not);
    }

    private static int gain(int mine, int his, int lose, int counts, int not) {
        if (mine == 1) {
            return his == 1 ? -lose : counts;
        }
        return his == 1 ? not : 0;
    }

    /** The signs that were fed, and the tokens that are cut of them once they are read. */
    static final class Tape {
        private static final int END = 0;
        private static final int NOTHING = 1;
        private static final int WORD = 2;
        private static final int NUMBER = 3;
        private static final int SIGN = 4;

        private static final int UNFIT = 1;
        private static final int UNKNOWN = 2;
        private static final int TOLD = 3;
        private static final int NOT_AS_TOLD = 4;
        private static final int TOO_MANY = 5;

        private static final int LONGEST_WORD = 8;
        private static final int LONGEST_NUMBER = 4;
        private static final String SIGNS = "()<=+-*;";
        /** Each word with a blank behind it. */
        private static final String RESERVED =
            "counter at gap ball size home desk damp wears beat send set carry day plain oak willow cork not and or ";

        final char[] signs = new char[MOST_SIGNS];
        final int[] kinds = new int[MOST_SIGNS + 1];
        final int[] places = new int[MOST_SIGNS + 1];
        final long[] values = new long[MOST_SIGNS + 1];
        int length = 0;
        int at = 0;
        int fault = 0;

        void addBytes(long eight) {
            for (int shift = 56; shift >= 0; shift -= 8) {
                int sign = (int) (eight >>> shift) & 255;
                boolean fits = sign == 10 || within(sign, 32, 126);
                if (fits && length < MOST_SIGNS) {
                    signs[length] = (char) sign;
                    length++;
                }
            }
        }

        /** Cuts all tokens beforehand, the end last, and takes the signs away. */
        void cut() {
            int tokens = 0;
            int place = 0;
            for (int i = 0; i < MOST_SIGNS && place < length; i++) {
                if (signs[place] == 10 || signs[place] == ' ') {
                    place++;
                } else {
                    place = cutOne(tokens, place);
                    tokens++;
                }
            }
            put(tokens, END, length, 0);
            length = 0;
            at = 0;
            fault = 0;
        }

        private int cutOne(int token, int place) {
            char sign = signs[place];
            if (within(sign, 'a', 'z')) {
                return cutWord(token, place);
            }
            if (within(sign, '0', '9')) {
                return cutNumber(token, place);
            }
            put(token, SIGNS.indexOf(sign) >= 0 ? SIGN : NOTHING, place, sign);
            return place + 1;
        }

        private int cutWord(int token, int place) {
            long word = 0;
            int end = place;
            for (; end < length && within(signs[end], 'a', 'z'); end++) {
                word = longer(word, signs[end]);
            }
            put(token, end - place <= LONGEST_WORD ? WORD : NOTHING, place, word);
            return end;
        }

        private int cutNumber(int token, int place) {
            long number = 0;
            int end = place;
            for (; end < length && within(signs[end], '0', '9'); end++) {
                number = number * 10 + signs[end] - '0';
            }
            put(token, end - place <= LONGEST_NUMBER ? NUMBER : NOTHING, place, number);
            return end;
        }

        private void put(int token, int kind, int place, long value) {
            if (token >= 0 && token <= MOST_SIGNS) {
                kinds[token] = kind;
                places[token] = place;
                values[token] = value;
            }
        }

        /** Eight letters go into a long, so that words are compared without making texts. */
        private static long longer(long word, char letter) {
            return word * 32 + letter - 'a' + 1;
        }

        private static boolean isReserved(long wanted) {
            long word = 0;
            for (int i = 0; i < RESERVED.length(); i++) {
                char sign = RESERVED.charAt(i);
                if (sign != ' ') {
                    word = longer(word, sign);
                } else if (word == wanted) {
                    return true;
                } else {
                    word = 0;
                }
            }
            return false;
        }

        boolean isSound() {
            return fault == 0;
        }

        boolean goesOn() {
            return fault == 0 && kinds[at] != END;
        }

        /** Only the first fault counts: what is read behind it changes nothing. */
        void wrong(int kind) {
            if (fault == 0) {
                fault = kind + 16 * places[at];
            }
        }

        void next() {
            if (goesOn() && at < MOST_SIGNS) {
                at++;
            }
        }

        boolean isWord(String text) {
            long word = 0;
            for (int i = 0; i < text.length(); i++) {
                word = longer(word, text.charAt(i));
            }
            return kinds[at] == WORD && values[at] == word;
        }

        boolean isSign(char sign) {
            return kinds[at] == SIGN && values[at] == sign;
        }

        boolean isNumber() {
            return kinds[at] == NUMBER;
        }

        boolean isName() {
            return kinds[at] == WORD && !isReserved(values[at]);
        }

        long value() {
            return values[at];
        }

        void takeWord(String text) {
            if (isWord(text)) {
                next();
            } else {
                wrong(UNFIT);
            }
        }

        void takeSign(char sign) {
            if (isSign(sign)) {
                next();
            } else {
                wrong(UNFIT);
            }
        }

        int takeNumber(int least, int most) {
            int number = numberHere(least, most);
            next();
            return number;
        }

        /** The number is looked at and not taken, so that it can still be found wrong by what it is. */
        int numberHere(int least, int most) {
            if (!isNumber()) {
                wrong(UNFIT);
                return least;
            }
            int number = (int) values[at];
            if (!within(number, least, most)) {
                wrong(NOT_AS_TOLD);
                return least;
            }
            return number;
        }

        /** The number of the name at hand in a row of told names. */
        int takeTold(long[] names, int many) {
            if (!isName()) {
                wrong(UNFIT);
                return 0;
            }
            int told = indexOf(names, many, values[at]);
            if (told == NONE) {
                wrong(UNKNOWN);
                return 0;
            }
            next();
            return told;
        }

        static int indexOf(long[] names, int many, long name) {
            for (int i = 0; i < many && i < names.length; i++) {
                if (names[i] == name) {
                    return i;
                }
            }
            return NONE;
        }
    }

    /** The law of wear, as steps upon a pile of numbers. */
    static final class Law {
        private static final int NUMBER = 0;
        private static final int WIDTH = 1;
        private static final int RUNS = 2;
        private static final int WET = 3;
        private static final int DATE = 4;
        private static final int NOT = 5;
        private static final int AND = 6;
        private static final int OR = 7;
        private static final int LESS = 8;
        private static final int EQUAL = 9;
        private static final int PLUS = 10;
        private static final int MINUS = 11;
        private static final int TIMES = 12;

        /** Four ranks of signs, each with one number waiting, six deep at the most, need far less. */
        private static final int PILE = 64;

        final int[] steps = new int[MOST_SIGNS];
        final int[] numbers = new int[MOST_SIGNS];
        final int[] pile = new int[PILE];
        int count = 0;

        void add(int step, int number) {
            if (count < MOST_SIGNS) {
                steps[count] = step;
                numbers[count] = number;
                count++;
            }
        }

        void take(Law other) {
            count = other.count;
            System.arraycopy(other.steps, 0, steps, 0, count);
            System.arraycopy(other.numbers, 0, numbers, 0, count);
        }

        int worth(int width, int runs, int wet, int date) {
            int top = 0;
            for (int i = 0; i < count; i++) {
                int step = steps[i];
                if (step < NOT && top < PILE) {
                    pile[top] = fact(i, width, runs, wet, date);
                    top++;
                } else if (step == NOT && top >= 1) {
                    pile[top - 1] = pile[top - 1] == 0 ? 1 : 0;
                } else if (top >= 2) {
                    top--;
                    pile[top - 1] = joined(step, pile[top - 1], pile[top]);
                }
            }
            return top > 0 ? pile[0] : 0;
        }

        private int fact(int i, int width, int runs, int wet, int date) {
            switch (steps[i]) {
                case WIDTH:
                    return width;
                case RUNS:
                    return runs;
                case WET:
                    return wet;
                case DATE:
                    return date;
                default:
                    return numbers[i];
            }
        }

        private static int joined(int step, int left, int right) {
            switch (step) {
                case AND:
                    return left != 0 && right != 0 ? 1 : 0;
                case OR:
                    return left != 0 || right != 0 ? 1 : 0;
                case LESS:
                    return left < right ? 1 : 0;
                case EQUAL:
                    return left == right ? 1 : 0;
                case PLUS:
                    return left + right;
                case MINUS:
                    return left - right;
                default:
                    return left * right;
            }
        }
    }

    /** The shop as it was told. */
    static final class Shop {
        final int[] places = new int[MOST_COUNTERS];
        final int[] gaps = new int[MOST_COUNTERS];
        final long[] counterNames = new long[MOST_COUNTERS];
        final int[] rail = new int[MOST_COUNTERS];
        final int[] kinds = new int[MOST_BALLS];
        final int[] sizes = new int[MOST_BALLS];
        final int[] homes = new int[MOST_BALLS];
        final long[] ballNames = new long[MOST_BALLS];
        final int[] damps = new int[MOST_DAMPS];
        final Law law = new Law();
        int counters = 0;
        int balls = 0;
        int dampDays = 0;
        int desk = 2;

        void clear() {
            counters = 0;
            balls = 0;
            dampDays = 0;
            desk = 2;
            law.count = 0;
        }

        void take(Shop other) {
            counters = other.counters;
            balls = other.balls;
            dampDays = other.dampDays;
            desk = other.desk;
            law.take(other.law);
            System.arraycopy(other.places, 0, places, 0, MOST_COUNTERS);
            System.arraycopy(other.gaps, 0, gaps, 0, MOST_COUNTERS);
            System.arraycopy(other.counterNames, 0, counterNames, 0, MOST_COUNTERS);
            System.arraycopy(other.rail, 0, rail, 0, MOST_COUNTERS);
            System.arraycopy(other.kinds, 0, kinds, 0, MOST_BALLS);
            System.arraycopy(other.sizes, 0, sizes, 0, MOST_BALLS);
            System.arraycopy(other.homes, 0, homes, 0, MOST_BALLS);
            System.arraycopy(other.ballNames, 0, ballNames, 0, MOST_BALLS);
            System.arraycopy(other.damps, 0, damps, 0, MOST_DAMPS);
        }

        void addCounter(long name, int place, int gap) {
            if (counters < MOST_COUNTERS) {
                counterNames[counters] = name;
                places[counters] = place;
                gaps[counters] = gap;
                putOnRail(counters);
                counters++;
            }
        }

        /** The rail holds the counters by their places, so that a fall is one look along it. */
        private void putOnRail(int counter) {
            int i = counter;
            for (; i > 0 && places[rail[i - 1]] > places[counter]; i--) {
                rail[i] = rail[i - 1];
            }
            rail[i] = counter;
        }

        void addBall(long name, int kind, int size, int home) {
            if (balls < MOST_BALLS) {
                ballNames[balls] = name;
                kinds[balls] = kind;
                sizes[balls] = size;
                homes[balls] = home;
                balls++;
            }
        }

        void addDamp(int damp) {
            if (dampDays < MOST_DAMPS) {
                damps[dampDays] = damp;
                dampDays++;
            }
        }

        boolean hasCounter(int counter) {
            return counter >= 0 && counter < counters;
        }

        boolean hasBall(int ball) {
            return ball >= 0 && ball < balls;
        }

        boolean isNameTold(long name) {
            return Tape.indexOf(counterNames, counters, name) != NONE
                || Tape.indexOf(ballNames, balls, name) != NONE;
        }

        boolean isPlaceTold(int place) {
            for (int i = 0; i < counters; i++) {
                if (places[i] == place) {
                    return true;
                }
            }
            return false;
        }

        int dampOn(int day) {
            return dampDays > 0 && day >= 0 ? damps[day % dampDays] : 0;
        }

        int fall(int size, int[] gapsNow) {
            for (int i = 0; i < counters; i++) {
                if (gapsNow[rail[i]] >= size) {
                    return rail[i];
                }
            }
            return PIT;
        }

        int beatsTo(int ball, int spot) {
            int place = 1;
            if (hasCounter(spot)) {
                place = places[spot];
            } else if (counters > 0) {
                place = places[rail[counters - 1]] + 1;
            }
            return kinds[ball] == CORK ? 2 * place : place;
        }

        int worn(int ball, int size, int runs, int wet, int date) {
            int loss = limited(law.worth(size, runs, wet, date), -9, 9);
            if (kinds[ball] == OAK) {
                loss = limited(loss, -1, 1);
            } else if (kinds[ball] == WILLOW) {
                loss = 2 * loss;
            }
            return limited(size - loss, 1, LARGEST);
        }
    }

    /** What is to be done, line by line. */
    static final class Lines {
        final int[] deeds = new int[MOST_LINES];
        final int[] firsts = new int[MOST_LINES];
        final int[] seconds = new int[MOST_LINES];
        int count = 0;

        void add(int deed, int first, int second) {
            if (count < MOST_LINES) {
                deeds[count] = deed;
                firsts[count] = first;
                seconds[count] = second;
                count++;
            }
        }

        void take(Lines other) {
            count = other.count;
            System.arraycopy(other.deeds, 0, deeds, 0, count);
            System.arraycopy(other.firsts, 0, firsts, 0, count);
            System.arraycopy(other.seconds, 0, seconds, 0, count);
        }

        /** False, and nothing is done, for a line that can't be. */
        boolean perform(int line, State state) {
            int first = firsts[line];
            int second = seconds[line];
            switch (deeds[line]) {
                case DO_SEND:
                    return state.sendOff(first);
                case DO_SET:
                    return state.setGap(first, second);
                case DO_CARRY:
                    return state.carryTo(first, second);
                case DO_DAY:
                    state.passDay();
                    return true;
                default:
                    state.passBeat();
                    return true;
            }
        }
    }

    /** Reads what the tape tells, up to its first fault. */
    static final class Reader {
        private static final int TESTS = 0;
        private static final int COMPARED = 1;
        private static final int SUMS = 2;
        private static final int PRODUCTS = 3;
        private static final int PARTS = 4;
        private static final int DEEPEST = 5;

        final Tape tape;
        boolean deskTold = false;
        boolean wearsTold = false;

        Reader(Tape tape) {
            this.tape = tape;
        }

        int readShop(Shop shop) {
            shop.clear();
            deskTold = false;
            wearsTold = false;
            tape.cut();
            for (int i = 0; i < MOST_SIGNS && tape.goesOn(); i++) {
                if (tape.isWord("counter")) {
                    readCounter(shop);
                } else if (tape.isWord("ball")) {
                    readBall(shop);
                } else if (tape.isWord("desk")) {
                    readDesk(shop);
                } else if (tape.isWord("damp")) {
                    readDamp(shop);
                } else if (tape.isWord("wears")) {
                    readWears(shop);
                } else {
                    tape.wrong(Tape.UNFIT);
                }
                tape.takeSign(';');
            }
            return tape.fault;
        }

        private void readCounter(Shop shop) {
            if (shop.counters >= MOST_COUNTERS) {
                tape.wrong(Tape.TOO_MANY);
            }
            tape.next();
            long name = takeNewName(shop);
            tape.takeWord("at");
            int place = tape.numberHere(1, FARTHEST);
            if (shop.isPlaceTold(place)) {
                tape.wrong(Tape.TOLD);
            }
            tape.next();
            tape.takeWord("gap");
            int gap = tape.takeNumber(0, LARGEST);
            shop.addCounter(name, place, gap);
        }

        private void readBall(Shop shop) {
            if (shop.balls >= MOST_BALLS) {
                tape.wrong(Tape.TOO_MANY);
            }
            tape.next();
            long name = takeNewName(shop);
            int kind = takeKind();
            tape.takeWord("size");
            int size = tape.takeNumber(1, LARGEST);
            tape.takeWord("home");
            int home = tape.takeTold(shop.counterNames, shop.counters);
            shop.addBall(name, kind, size, home);
        }

        private long takeNewName(Shop shop) {
            long name = tape.value();
            if (!tape.isName()) {
                tape.wrong(Tape.UNFIT);
            } else if (shop.isNameTold(name)) {
                tape.wrong(Tape.TOLD);
            }
            tape.next();
            return name;
        }

        private int takeKind() {
            int kind = PLAIN;
            if (tape.isWord("oak")) {
                kind = OAK;
            } else if (tape.isWord("willow")) {
                kind = WILLOW;
            } else if (tape.isWord("cork")) {
                kind = CORK;
            } else if (!tape.isWord("plain")) {
                tape.wrong(Tape.UNFIT);
            }
            tape.next();
            return kind;
        }

        private void readDesk(Shop shop) {
            if (deskTold) {
                tape.wrong(Tape.TOLD);
            }
            deskTold = true;
            tape.next();
            shop.desk = tape.takeNumber(1, 9);
        }

        private void readDamp(Shop shop) {
            if (shop.dampDays > 0) {
                tape.wrong(Tape.TOLD);
            }
            tape.next();
            shop.addDamp(tape.takeNumber(0, 9));
            for (int i = 1; i <= MOST_DAMPS && tape.isSound() && tape.isNumber(); i++) {
                int damp = tape.numberHere(0, 9);
                if (i >= MOST_DAMPS) {
                    tape.wrong(Tape.TOO_MANY);
                }
                tape.next();
                shop.addDamp(damp);
            }
        }

        private void readWears(Shop shop) {
            if (wearsTold) {
                tape.wrong(Tape.TOLD);
            }
            wearsTold = true;
            tape.next();
            readRank(TESTS, 0, shop.law);
        }

        /** One rank of signs that join, from the left; what they join is of the next rank. */
        private void readRank(int rank, int depth, Law law) {
            if (rank >= PARTS) {
                readPart(depth, law);
                return;
            }
            readRank(rank + 1, depth, law);
            int step = joiner(rank);
            for (int i = 0; i < MOST_SIGNS && step != NONE; i++) {
                tape.next();
                readRank(rank + 1, depth, law);
                law.add(step, 0);
                step = rank == COMPARED ? NONE : joiner(rank);
            }
        }

        private int joiner(int rank) {
            if (!tape.isSound()) {
                return NONE;
            }
            switch (rank) {
                case TESTS:
                    return tape.isWord("and") ? Law.AND : tape.isWord("or") ? Law.OR : NONE;
                case COMPARED:
                    return tape.isSign('<') ? Law.LESS : tape.isSign('=') ? Law.EQUAL : NONE;
                case SUMS:
                    return tape.isSign('+') ? Law.PLUS : tape.isSign('-') ? Law.MINUS : NONE;
                case PRODUCTS:
                    return tape.isSign('*') ? Law.TIMES : NONE;
                default:
                    return NONE;
            }
        }

        private void readPart(int depth, Law law) {
            int fact = factHere();
            boolean isNot = tape.isWord("not");
            boolean isOpen = tape.isSign('(');
            if (fact == NONE && !isNot && !isOpen) {
                tape.wrong(Tape.UNFIT);
            } else if (depth >= DEEPEST) {
                tape.wrong(Tape.TOO_MANY);
            }
            if (!tape.isSound()) {
                return;
            }
            int number = fact == Law.NUMBER ? (int) tape.value() : 0;
            tape.next();
            if (isNot) {
                readPart(depth + 1, law);
                law.add(Law.NOT, 0);
            } else if (isOpen) {
                readRank(TESTS, depth + 1, law);
                tape.takeSign(')');
            } else {
                law.add(fact, number);
            }
        }

        private int factHere() {
            if (tape.isNumber()) {
                return Law.NUMBER;
            }
            if (tape.isWord("width")) {
                return Law.WIDTH;
            }
            if (tape.isWord("runs")) {
                return Law.RUNS;
            }
            if (tape.isWord("wet")) {
                return Law.WET;
            }
            return tape.isWord("date") ? Law.DATE : NONE;
        }

        int readRun(Shop shop, Lines lines) {
            lines.count = 0;
            tape.cut();
            for (int i = 0; i < MOST_SIGNS && tape.goesOn(); i++) {
                readRunLine(shop, lines);
                tape.takeSign(';');
            }
            return tape.fault;
        }

        private void readRunLine(Shop shop, Lines lines) {
            int deed = deedHere();
            if (deed == NONE) {
                tape.wrong(Tape.UNFIT);
            } else if (lines.count >= MOST_LINES) {
                tape.wrong(Tape.TOO_MANY);
            }
            tape.next();
            int first = 0;
            int second = 0;
            if (deed == DO_SEND || deed == DO_CARRY) {
                first = tape.takeTold(shop.ballNames, shop.balls);
            }
            if (deed == DO_CARRY) {
                second = tape.takeTold(shop.counterNames, shop.counters);
            }
            if (deed == DO_SET) {
                first = tape.takeTold(shop.counterNames, shop.counters);
                second = tape.takeNumber(0, LARGEST);
            }
            lines.add(deed, first, second);
        }

        private int deedHere() {
            if (tape.isWord("beat")) {
                return DO_BEAT;
            }
            if (tape.isWord("send")) {
                return DO_SEND;
            }
            if (tape.isWord("set")) {
                return DO_SET;
            }
            if (tape.isWord("carry")) {
                return DO_CARRY;
            }
            return tape.isWord("day") ? DO_DAY : NONE;
        }
    }

    /** How it is: the day and the beat, the gaps, and each ball. */
    static final class State {
        /** Six balls of cork from place 20, at the slowest desk, rest long before that. */
        private static final int MOST_BEATS = 1000;

        final Shop shop;
        final int[] gaps = new int[MOST_COUNTERS];
        final int[] sizes = new int[MOST_BALLS];
        /** The basket in which a ball rests, or to which it comes; of no meaning else. */
        final int[] spots = new int[MOST_BALLS];
        final int[] phases = new int[MOST_BALLS];
        final int[] toGo = new int[MOST_BALLS];
        final int[] sent = new int[MOST_BALLS];
        final int[] row = new int[MOST_BALLS];
        int inRow = 0;
        int served = 0;
        int day = 0;
        int beat = 0;
        /** How often a ball came to rest elsewhere than at home. */
        int strays = 0;

        State(Shop shop) {
            this.shop = shop;
        }

        /** As the shop was told. */
        void open() {
            inRow = 0;
            served = 0;
            day = 0;
            beat = 0;
            strays = 0;
            for (int counter = 0; counter < shop.counters; counter++) {
                gaps[counter] = shop.gaps[counter];
            }
            for (int ball = 0; ball < shop.balls; ball++) {
                sizes[ball] = shop.sizes[ball];
                spots[ball] = shop.homes[ball];
                phases[ball] = RESTING;
                toGo[ball] = 0;
                sent[ball] = 0;
            }
        }

        void take(State other) {
            System.arraycopy(other.gaps, 0, gaps, 0, MOST_COUNTERS);
            System.arraycopy(other.sizes, 0, sizes, 0, MOST_BALLS);
            System.arraycopy(other.spots, 0, spots, 0, MOST_BALLS);
            System.arraycopy(other.phases, 0, phases, 0, MOST_BALLS);
            System.arraycopy(other.toGo, 0, toGo, 0, MOST_BALLS);
            System.arraycopy(other.sent, 0, sent, 0, MOST_BALLS);
            System.arraycopy(other.row, 0, row, 0, MOST_BALLS);
            inRow = other.inRow;
            served = other.served;
            day = other.day;
            beat = other.beat;
            strays = other.strays;
        }

        int fallOf(int ball) {
            return shop.fall(sizes[ball], gaps);
        }

        int inPhase(int phase) {
            int bits = 0;
            for (int ball = 0; ball < shop.balls; ball++) {
                if (phases[ball] == phase) {
                    bits |= 1 << ball;
                }
            }
            return bits;
        }

        int basket(int counter) {
            int bits = 0;
            for (int ball = 0; ball < shop.balls; ball++) {
                if (phases[ball] == RESTING && spots[ball] == counter) {
                    bits |= 1 << ball;
                }
            }
            return bits;
        }

        int astray() {
            int bits = 0;
            for (int ball = 0; ball < shop.balls; ball++) {
                if (phases[ball] == RESTING && spots[ball] != shop.homes[ball]) {
                    bits |= 1 << ball;
                }
            }
            return bits;
        }

        int allSizes() {
            int sum = 0;
            for (int ball = 0; ball < shop.balls; ball++) {
                sum += sizes[ball];
            }
            return sum;
        }

        boolean canSend(int ball) {
            return shop.hasBall(ball) && phases[ball] == RESTING && spots[ball] != PIT;
        }

        boolean sendOff(int ball) {
            if (!canSend(ball)) {
                return false;
            }
            phases[ball] = OUT;
            toGo[ball] = shop.beatsTo(ball, spots[ball]);
            sent[ball]++;
            return true;
        }

        boolean canSet(int counter, int gap) {
            return shop.hasCounter(counter) && within(gap, 0, LARGEST);
        }

        boolean setGap(int counter, int gap) {
            if (!canSet(counter, gap)) {
                return false;
            }
            gaps[counter] = gap;
            return true;
        }

        boolean canCarry(int ball, int counter) {
            return shop.hasBall(ball) && shop.hasCounter(counter)
                && phases[ball] == RESTING && spots[ball] != counter;
        }

        boolean carryTo(int ball, int counter) {
            if (!canCarry(ball, counter)) {
                return false;
            }
            spots[ball] = counter;
            return true;
        }

        /** In this order each part of the beat sees what was ahead of it: none moves a ball that the next one would. */
        int passBeat() {
            int rested = comeBack();
            serve();
            goOut();
            beat++;
            return rested;
        }

        private int comeBack() {
            int rested = 0;
            for (int ball = 0; ball < shop.balls; ball++) {
                if (phases[ball] == COMING) {
                    toGo[ball]--;
                    if (toGo[ball] <= 0) {
                        phases[ball] = RESTING;
                        rested |= 1 << ball;
                        strays += spots[ball] != shop.homes[ball] ? 1 : 0;
                    }
                }
            }
            return rested;
        }

        private void serve() {
            if (inRow == 0) {
                return;
            }
            served++;
            if (served < shop.desk) {
                return;
            }
            int ball = row[0];
            for (int i = 1; i < inRow; i++) {
                row[i - 1] = row[i];
            }
            inRow--;
            served = 0;
            phases[ball] = COMING;
            spots[ball] = fallOf(ball);
            toGo[ball] = shop.beatsTo(ball, spots[ball]);
        }

        private void goOut() {
            for (int ball = 0; ball < shop.balls; ball++) {
                if (phases[ball] == OUT) {
                    toGo[ball]--;
                    if (toGo[ball] <= 0 && inRow < MOST_BALLS) {
                        phases[ball] = IN_ROW;
                        row[inRow] = ball;
                        inRow++;
                    }
                }
            }
        }

        int passTillRests(int ball) {
            int beats = 0;
            for (; beats < MOST_BEATS && phases[ball] != RESTING; beats++) {
                passBeat();
            }
            return beats;
        }

        int passTillAllRest() {
            int all = (1 << shop.balls) - 1;
            int beats = 0;
            for (; beats < MOST_BEATS && inPhase(RESTING) != all; beats++) {
                passBeat();
            }
            return beats;
        }

        int passDay() {
            int beats = passTillAllRest();
            int wet = shop.dampOn(day);
            for (int ball = 0; ball < shop.balls; ball++) {
                sizes[ball] = shop.worn(ball, sizes[ball], sent[ball], wet, day);
                sent[ball] = 0;
            }
            day++;
            beat = 0;
            return beats;
        }

        void passByDraws(int seed, int many) {
            long drawn = seed;
            for (int i = 0; i < many && shop.balls > 0; i++) {
                drawn = draw(drawn);
                int luck = (int) (drawn / 65536 % 8);
                if (luck < 4) {
                    drawn = draw(drawn);
                    sendOff((int) (drawn / 65536 % shop.balls));
                } else if (luck == 7) {
                    passDay();
                } else {
                    passBeat();
                }
            }
        }

        private static long draw(long drawn) {
            return (drawn * 1103515245L + 12345L) % 2147483648L;
        }
    }

    /** How it was ahead of what was done last. */
    static final class Past {
        final State[] states = new State[MOST_UNDONE];
        int count = 0;

        Past(Shop shop) {
            for (int i = 0; i < MOST_UNDONE; i++) {
                states[i] = new State(shop);
            }
        }

        /** The oldest one is used again once all are. */
        void keep(State state) {
            if (count >= MOST_UNDONE) {
                State oldest = states[0];
                for (int i = 1; i < MOST_UNDONE; i++) {
                    states[i - 1] = states[i];
                }
                states[MOST_UNDONE - 1] = oldest;
                count = MOST_UNDONE - 1;
            }
            states[count].take(state);
            count++;
        }

        boolean giveBack(State state) {
            if (count == 0) {
                return false;
            }
            count--;
            state.take(states[count]);
            return true;
        }
    }

    /** What was seen of an unknown ball. */
    static final class Seen {
        final int[] counters = new int[MOST_SEEN];
        final int[] days = new int[MOST_SEEN];
        final boolean[] fell = new boolean[MOST_SEEN];
        int count = 0;

        boolean note(int counter, int dayCount, boolean fellThere) {
            if (count >= MOST_SEEN) {
                return false;
            }
            counters[count] = counter;
            days[count] = dayCount;
            fell[count] = fellThere;
            count++;
            return true;
        }

        void take(Seen other) {
            count = other.count;
            for (int i = 0; i < count; i++) {
                counters[i] = other.counters[i];
                days[i] = other.days[i];
                fell[i] = other.fell[i];
            }
        }

        int agreeing(Foresight foresight) {
            int bits = 0;
            for (int ball = 0; ball < foresight.shop.balls; ball++) {
                foresight.look(ball, MOST_SEEN_DAYS);
                if (agrees(ball, foresight)) {
                    bits |= 1 << ball;
                }
            }
            return bits;
        }

        private boolean agrees(int ball, Foresight foresight) {
            for (int i = 0; i < count; i++) {
                boolean falls = foresight.fallAfter(ball, days[i]) == counters[i];
                if (falls != fell[i]) {
                    return false;
                }
            }
            return true;
        }
    }

    /** How it was when the mark was laid. */
    static final class Mark {
        final State state;
        final Lines lines = new Lines();
        final Seen seen = new Seen();
        boolean laid = false;

        Mark(Shop shop) {
            state = new State(shop);
        }

        void lay(State now, Lines linesNow, Seen seenNow) {
            state.take(now);
            lines.take(linesNow);
            seen.take(seenNow);
            laid = true;
        }

        void goBack(State now, Lines linesNow, Seen seenNow) {
            now.take(state);
            linesNow.take(lines);
            seenNow.take(seen);
        }
    }

    /** What comes if days go by and nothing else is done. */
    static final class Foresight {
        final Shop shop;
        final State now;
        final int[][] sizes = new int[MOST_BALLS][MOST_DAYS + 1];

        Foresight(Shop shop, State now) {
            this.shop = shop;
            this.now = now;
        }

        void look(int ball, int days) {
            int[] row = sizes[ball];
            row[0] = now.sizes[ball];
            for (int i = 0; i < days && i < MOST_DAYS; i++) {
                row[i + 1] = sizeNext(ball, row[i], i, shop.dampOn(now.day + i));
            }
        }

        /** What was sent counts for the first day alone: none is sent on the later ones. */
        private int sizeNext(int ball, int size, int daysGone, int wet) {
            int runs = daysGone == 0 ? now.sent[ball] : 0;
            return shop.worn(ball, size, runs, wet, now.day + daysGone);
        }

        int fallAfter(int ball, int days) {
            return shop.fall(sizes[ball][days], now.gaps);
        }

        int firstAstray(int ball) {
            look(ball, MOST_DAYS);
            for (int days = 0; days <= MOST_DAYS; days++) {
                if (fallAfter(ball, days) != shop.homes[ball]) {
                    return days;
                }
            }
            return NONE;
        }

        int firstAsLarge(int ball, int size) {
            look(ball, MOST_DAYS);
            for (int days = 0; days <= MOST_DAYS; days++) {
                if (sizes[ball][days] >= size) {
                    return days;
                }
            }
            return NONE;
        }

        /** Where to look for one of these balls, all foreseen already; 8 * the days + the counter. */
        int bestQuestion(int balls) {
            int all = Integer.bitCount(balls);
            int least = all;
            int best = NONE;
            for (int days = 0; days <= MOST_SEEN_DAYS; days++) {
                for (int counter = 0; counter < shop.counters; counter++) {
                    int there = fallersAfter(balls, days, counter);
                    int greater = Math.max(there, all - there);
                    if (greater < least) {
                        least = greater;
                        best = 8 * days + counter;
                    }
                }
            }
            return best;
        }

        private int fallersAfter(int balls, int days, int counter) {
            int many = 0;
            for (int ball = 0; ball < shop.balls; ball++) {
                if ((balls >> ball & 1) == 1 && fallAfter(ball, days) == counter) {
                    many++;
                }
            }
            return many;
        }

        /** Six days by tenths are millionths already; fewer are made so. */
        int millionthsHome(int ball, int days, int odds) {
            int millionths = homeByOdds(ball, now.sizes[ball], 0, days, odds);
            for (int i = days; i < MOST_ODD_DAYS; i++) {
                millionths *= 10;
            }
            return millionths;
        }

        /** In how many of 10 to the power of the days left the ball falls at home behind them. */
        private int homeByOdds(int ball, int size, int daysGone, int daysLeft, int odds) {
            if (daysLeft <= 0) {
                return shop.fall(size, now.gaps) == shop.homes[ball] ? 1 : 0;
            }
            int damp = sizeNext(ball, size, daysGone, 9);
            int dry = sizeNext(ball, size, daysGone, 0);
            return odds * homeByOdds(ball, damp, daysGone + 1, daysLeft - 1, odds)
                + (10 - odds) * homeByOdds(ball, dry, daysGone + 1, daysLeft - 1, odds);
        }
    }

    /** What is asked of the sizes and gaps as they are. */
    static final class Gaps {
        final Shop shop;
        final State now;
        final int[] planned = new int[MOST_COUNTERS];
        final int[] exchanged = new int[MOST_COUNTERS];
        /** By the counters along the rail and the widest gap ahead of them: the most balls that go home from there on. */
        final int[][] best = new int[MOST_COUNTERS + 1][LARGEST + 1];
        final int[][] choice = new int[MOST_COUNTERS][LARGEST + 1];
        final int[][] homeSizes = new int[MOST_COUNTERS][LARGEST + 1];

        Gaps(Shop shop, State now) {
            this.shop = shop;
            this.now = now;
        }

        int least(int counter) {
            for (int size = 1; size <= LARGEST; size++) {
                if (shop.fall(size, now.gaps) == counter) {
                    return size;
                }
            }
            return NONE;
        }

        int most(int counter) {
            for (int size = LARGEST; size >= 1; size--) {
                if (shop.fall(size, now.gaps) == counter) {
                    return size;
                }
            }
            return NONE;
        }

        int fallers(int spot) {
            int bits = 0;
            for (int ball = 0; ball < shop.balls; ball++) {
                if (now.fallOf(ball) == spot) {
                    bits |= 1 << ball;
                }
            }
            return bits;
        }

        int leastChange(int ball) {
            for (int change = 0; change < LARGEST; change++) {
                if (wouldGoHome(ball, now.sizes[ball] - change) || wouldGoHome(ball, now.sizes[ball] + change)) {
                    return change;
                }
            }
            return NONE;
        }

        private boolean wouldGoHome(int ball, int size) {
            return within(size, 1, LARGEST) && shop.fall(size, now.gaps) == shop.homes[ball];
        }

        private int goingHome(int[] gapsThen) {
            int many = 0;
            for (int ball = 0; ball < shop.balls; ball++) {
                if (shop.fall(now.sizes[ball], gapsThen) == shop.homes[ball]) {
                    many++;
                }
            }
            return many;
        }

        int bestExchange() {
            int most = goingHome(now.gaps);
            int pair = NONE;
            System.arraycopy(now.gaps, 0, exchanged, 0, MOST_COUNTERS);
            for (int one = 0; one < shop.counters; one++) {
                for (int other = one + 1; other < shop.counters; other++) {
                    exchanged[one] = now.gaps[other];
                    exchanged[other] = now.gaps[one];
                    int many = goingHome(exchanged);
                    if (many > most) {
                        most = many;
                        pair = 8 * one + other;
                    }
                    exchanged[one] = now.gaps[one];
                    exchanged[other] = now.gaps[other];
                }
            }
            return pair;
        }

        /**
         * From the end of the rail on, as a ball passes a counter if and only if it is larger than all gaps so far;
         * of equal gaps the least one is chosen each time, so that the row of them is the first.
         */
        int plan() {
            sortSizesByHome();
            for (int widest = 0; widest <= LARGEST; widest++) {
                best[shop.counters][widest] = 0;
            }
            for (int i = shop.counters - 1; i >= 0; i--) {
                for (int widest = 0; widest <= LARGEST; widest++) {
                    choose(i, widest);
                }
            }
            int widest = 0;
            for (int i = 0; i < shop.counters; i++) {
                int gap = choice[i][widest];
                planned[shop.rail[i]] = gap;
                widest = Math.max(widest, gap);
            }
            return best[0][0];
        }

        private void sortSizesByHome() {
            for (int counter = 0; counter < shop.counters; counter++) {
                for (int size = 0; size <= LARGEST; size++) {
                    homeSizes[counter][size] = 0;
                }
            }
            for (int ball = 0; ball < shop.balls; ball++) {
                homeSizes[shop.homes[ball]][now.sizes[ball]]++;
            }
        }

        private void choose(int i, int widest) {
            int[] own = homeSizes[shop.rail[i]];
            int most = best[i + 1][widest];
            int chosen = 0;
            int caught = 0;
            for (int gap = widest + 1; gap <= LARGEST; gap++) {
                caught += own[gap];
                int many = caught + best[i + 1][gap];
                if (many > most) {
                    most = many;
                    chosen = gap;
                }
            }
            best[i][widest] = most;
            choice[i][widest] = chosen;
        }
    }
}
