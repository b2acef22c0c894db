/** Promise 3, but for the law of wear: shop. */
final class ShopEdges {
    private static final String A = "counter a at 1 gap 1;";
    private static final String B = "ball b oak size 1 home a;";
    private static final String[] RESERVED = {"counter", "at", "gap", "ball", "size", "home", "desk", "damp", "wears",
        "beat", "send", "set", "carry", "day", "plain", "oak", "willow", "cork", "not", "and", "or"};

    private final Edges edges;

    private ShopEdges(Edges edges) {
        this.edges = edges;
    }

    static void hold(Edges edges) {
        ShopEdges s = new ShopEdges(edges);
        s.anyNumberOf();
        s.sixCounters();
        s.numberedAsTold();
        s.places();
        s.noTwoPlacesAlike();
        s.gaps();
        s.sixBalls();
        s.kinds();
        s.sizes();
        s.homes();
        s.desk();
        s.damp();
        s.damps();
        s.againAndAgain();
        s.onceEach();
        s.names();
        s.noTwoAlike();
        s.faultsKindAndPlace();
        s.theEnd();
        s.firstTokenLeastKind();
        s.kindOne();
        s.kindTwo();
        s.kindThree();
        s.kindFour();
        s.kindFive();
        s.isTheShopFromThenOn();
        s.allStays();
    }

    private void sound(String text) {
        edges.is("shop() of \"" + text + "\"", Due.shop(new CashBalls(), text), 0);
    }

    /** A shop that is not sound leaves all as it was. */
    private void fault(String text, int kind, int place) {
        edges.refused("shop() of \"" + text + "\"", Edges::busyUntold, x -> Due.shop(x, text), kind + 16 * place);
    }

    private void has(String text, int what, int want) {
        CashBalls x = new CashBalls();
        edges.is("shop() of \"" + text + "\"", Due.shop(x, text), 0);
        edges.is("count(" + what + ") of it", x.count(what), want);
    }

    private static String counters(int many) {
        StringBuilder text = new StringBuilder();
        for (int i = 0; i < many; i++) {
            text.append("counter c").append((char) ('a' + i)).append(" at ").append(i + 1).append(" gap 1;");
        }
        return text.toString();
    }

    private static String balls(int many) {
        StringBuilder text = new StringBuilder();
        for (int i = 0; i < many; i++) {
            text.append("ball b").append((char) ('a' + i)).append(" oak size 1 home a;");
        }
        return text.toString();
    }

    private void anyNumberOf() {
        edges.of(3, "shop", "SHOP: any number of");
        has("", 0, 0);
        has(" \n", 1, 0);
        has("desk 1;", 9, 1);
        has(A, 0, 1);
        has("wears 1;desk 3;counter b at 1 gap 1;ball c oak size 1 home b;damp 4;counter d at 2 gap 1;", 1, 1);
        sound(counters(6) + balls(6).replace("home a", "home ca") + "desk 1;damp 1;wears 1;");
        fault(";", 1, 0);
        fault(A + ";", 1, 21);
    }

    private void sixCounters() {
        edges.of(3, "shop", "counter: 6 at most, numbered as told;");
        for (int many = 0; many <= 6; many++) {
            has(counters(many), 0, many);
        }
        fault(counters(7), 5, counters(6).length());
        fault(counters(6) + " counter", 5, counters(6).length() + 1);
    }

    private void numberedAsTold() {
        edges.of(3, "shop", "numbered as told");
        CashBalls x = Due.opened("counter z at 20 gap 9;counter a at 1 gap 3;counter m at 10 gap 6;"
            + "ball y oak size 5 home m;ball b cork size 2 home a;");
        int[] places = {20, 1, 10};
        for (int i = 0; i < 3; i++) {
            edges.is("counter(" + i + ", 0)", x.counter(i, 0), places[i]);
        }
        edges.is("counter(3, 0)", x.counter(3, 0), -1);
        edges.is("ball(0, 1)", x.ball(0, 1), 5);
        edges.is("ball(0, 2)", x.ball(0, 2), 2);
        edges.is("ball(1, 1)", x.ball(1, 1), 2);
        edges.is("ball(1, 2)", x.ball(1, 2), 1);
        edges.is("ball(2, 1)", x.ball(2, 1), -2);
        CashBalls y = Due.opened(Edges.six());
        edges.is("counter(5, 0)", y.counter(5, 0), 6);
        edges.is("counter(6, 0)", y.counter(6, 0), -1);
        edges.is("ball(5, 1)", y.ball(5, 1), 60);
        edges.is("ball(6, 1)", y.ball(6, 1), -2);
    }

    private void places() {
        edges.of(3, "shop", "at 1 to 20");
        int[] within = {1, 2, 19, 20};
        for (int place : within) {
            edges.is("place " + place, Due.opened("counter a at " + place + " gap 1;").counter(0, 0), place);
        }
        int[] beyond = {0, 21, 22, 99, 100, 9999};
        for (int place : beyond) {
            fault("counter a at " + place + " gap 1;", 4, 13);
        }
        fault("counter a at -1 gap 1;", 1, 13);
    }

    private void noTwoPlacesAlike() {
        edges.of(3, "shop", "at 1 to 20, no two alike");
        sound(A + "counter b at 2 gap 1;counter c at 20 gap 1;counter d at 19 gap 1;");
        fault(A + "counter b at 1 gap 1;", 3, 34);
        fault(A + "counter b at 0001 gap 1;", 3, 34);
        fault("counter a at 20 gap 1;counter b at 19 gap 1;counter c at 20 gap 1;", 3, 57);
        fault(counters(5) + "counter x at 5 gap 1;", 3, counters(5).length() + 13);
        fault(counters(5) + "counter x at 1 gap 1;", 3, counters(5).length() + 13);
    }

    private void gaps() {
        edges.of(3, "shop", "gap 0 to 60");
        int[] within = {0, 1, 59, 60};
        for (int gap : within) {
            CashBalls x = Due.opened("counter a at 1 gap " + gap + ";");
            edges.is("gap " + gap, x.counter(0, 1), gap);
        }
        fault("counter a at 1 gap 61;", 4, 19);
        fault("counter a at 1 gap 9999;", 4, 19);
        fault("counter a at 1 gap -1;", 1, 19);
        fault("counter a at 1 gap ;", 1, 19);
    }

    private void sixBalls() {
        edges.of(3, "shop", "ball: 6 at most, numbered as told");
        for (int many = 0; many <= 6; many++) {
            has(A + balls(many), 1, many);
        }
        int place = (A + balls(6)).length();
        fault(A + balls(7), 5, place);
        fault(A + balls(6) + "ball", 5, place);
    }

    private void kinds() {
        edges.of(3, "shop", "KIND: plain, oak, willow, cork");
        String[] kinds = {"plain", "oak", "willow", "cork"};
        for (int kind = 0; kind < 4; kind++) {
            edges.is(kinds[kind], Due.opened(A + "ball b " + kinds[kind] + " size 1 home a;").ball(0, 0), kind);
            fault(A + "ball b " + kinds[kind] + "s size 1 home a;", 1, 28);
        }
        fault(A + "ball b size 1 home a;", 1, 28);
        fault(A + "ball b pine size 1 home a;", 1, 28);
        fault(A + "ball b 1 size 1 home a;", 1, 28);
        fault(A + "ball b oak oak size 1 home a;", 1, 32);
    }

    private void sizes() {
        edges.of(3, "shop", "size 1 to 60");
        int[] within = {1, 2, 59, 60};
        for (int size : within) {
            edges.is("size " + size, Due.opened(A + "ball b oak size " + size + " home a;").ball(0, 1), size);
        }
        int[] beyond = {0, 61, 62, 9999};
        for (int size : beyond) {
            fault(A + "ball b oak size " + size + " home a;", 4, 37);
        }
        fault(A + "ball b oak size -1 home a;", 1, 37);
    }

    private void homes() {
        edges.of(3, "shop", "home: a COUNTER told");
        CashBalls x = Due.opened(counters(6) + "ball b oak size 1 home ca;ball c oak size 1 home cf;");
        edges.is("the first", x.ball(0, 2), 0);
        edges.is("the last", x.ball(1, 2), 5);
        fault(counters(6) + "ball b oak size 1 home cg;", 2, counters(6).length() + 23);
        fault(B, 2, 23);
        fault(B + A, 2, 23);
        fault(A + "ball b oak size 1 home b;", 2, 44);
        fault(A + B + "ball c oak size 1 home b;", 2, 69);
        fault(A + "ball b oak size 1 home oak;", 1, 44);
        fault(A + "ball b oak size 1 home 1;", 1, 44);
        fault(A + "ball b oak size 1 home ;", 1, 44);
        fault(A + "ball b oak size 1 home", 1, 43);
    }

    private void desk() {
        edges.of(3, "shop", "desk 1 to 9 (2)");
        int[] within = {1, 2, 8, 9};
        for (int beats : within) {
            has("desk " + beats + ";", 9, beats);
        }
        int[] beyond = {0, 10, 11, 9999};
        for (int beats : beyond) {
            fault("desk " + beats + ";", 4, 5);
        }
        has("", 9, 2);
        has(A + B, 9, 2);
        CashBalls x = Due.opened("desk 9;");
        Due.shop(x, A);
        edges.is("not told again", x.count(9), 2);
    }

    private void damp() {
        edges.of(3, "shop", "damp 0 to 9 of one day behind another");
        has("damp 0;", 4, 0);
        has("damp 1;", 4, 1);
        has("damp 8;", 4, 8);
        has("damp 9;", 4, 9);
        fault("damp 10;", 4, 5);
        fault("damp 9999;", 4, 5);
        fault("damp 0 10;", 4, 7);
        fault("damp 0 9 11;", 4, 9);
        fault("damp -1;", 1, 5);
        CashBalls x = Due.opened("damp 3 0 9;");
        edges.is("day 0", x.count(4), 3);
        x.day();
        edges.is("day 1", x.count(4), 0);
        x.day();
        edges.is("day 2", x.count(4), 9);
    }

    private void damps() {
        edges.of(3, "shop", "damp 0 to 9 of one day behind another, 1 to 12");
        fault("damp ;", 1, 5);
        fault("damp;", 1, 4);
        fault("damp", 1, 4);
        StringBuilder text = new StringBuilder("damp");
        for (int many = 1; many <= 12; many++) {
            text.append(' ').append(many % 10);
            sound(text + ";");
        }
        fault(text + " 3;", 5, text.length() + 1);
        fault(text + " 3 4;", 5, text.length() + 1);
        fault(text + " ", 1, text.length() + 1);
    }

    private void againAndAgain() {
        edges.of(3, "shop", "again and again (0)");
        CashBalls twelve = Due.opened("damp 1 2 3 4 5 6 7 8 9 8 7 6;");
        CashBalls one = Due.opened("damp 7;");
        CashBalls none = Due.opened("desk 1;");
        int[] told = {1, 2, 3, 4, 5, 6, 7, 8, 9, 8, 7, 6};
        for (int day = 0; day <= 36; day++) {
            edges.is("of twelve, day " + day, twelve.count(4), told[day % 12]);
            edges.is("of one, day " + day, one.count(4), 7);
            edges.is("of none, day " + day, none.count(4), 0);
            twelve.day();
            one.day();
            none.day();
        }
    }

    private void onceEach() {
        edges.of(3, "shop", "desk, damp, wears: once each.");
        sound("desk 1;damp 1;wears 1;");
        sound("wears 0;damp 0;desk 2;");
        fault("desk 1;desk 1;", 3, 7);
        fault("damp 1;damp 1;", 3, 7);
        fault("wears 1;wears 1;", 3, 8);
        fault("desk 2;desk", 3, 7);
        fault("damp 0;damp", 3, 7);
        fault("wears 0;wears", 3, 8);
        fault("desk 1;damp 1;wears 1;" + A + B + "desk 2;", 3, 22 + 46);
        CashBalls x = Due.opened("desk 1;damp 1;wears 1;");
        edges.is("once each in another shop", Due.shop(x, "desk 3;damp 3;wears 3;"), 0);
        edges.is("and behind a faulty one", Due.shop(x, "desk 4;damp 4;wears 4;desk 4;"), 3 + 16 * 22);
        edges.is("once each again", Due.shop(x, "desk 5;damp 5;wears 5;"), 0);
        edges.is("desk", x.count(9), 5);
    }

    private void names() {
        edges.of(3, "shop", "A NAME is another WORD than counter, at, gap, ball, size, home, desk, damp, wears, beat, "
            + "send, set, carry, day, the KINDS, not, and, or");
        for (String word : RESERVED) {
            fault("counter " + word + " at 1 gap 1;", 1, 8);
            fault(A + "ball " + word + " oak size 1 home a;", 1, 26);
            fault(A + "ball b oak size 1 home " + word + ";", 1, 44);
            String shorter = word.substring(1);
            sound("counter " + shorter + " at 1 gap 1;ball x" + shorter + " oak size 1 home " + shorter + ";");
            if (word.length() < 8) {
                sound("counter " + word + "x at 1 gap 1;ball x" + word + " oak size 1 home " + word + "x;");
            }
        }
        String[] free = {"width", "runs", "wet", "date", "kind", "rest", "undo", "shop", "run", "kinds"};
        for (String word : free) {
            sound("counter " + word + " at 1 gap 1;ball b oak size 1 home " + word + ";");
            sound(A + "ball " + word + " oak size 1 home a;");
        }
    }

    private void noTwoAlike() {
        edges.of(3, "shop", "no two (COUNTERS, BALLS) are alike");
        fault(A + "counter a at 2 gap 1;", 3, 29);
        fault(A + "ball a oak size 1 home a;", 3, 26);
        fault(A + B + "ball b oak size 1 home a;", 3, 51);
        fault(A + B + "counter b at 2 gap 1;", 3, 54);
        sound("counter abcdefgh at 1 gap 1;counter abcdefgi at 2 gap 1;counter bbcdefgh at 3 gap 1;");
        sound("counter a at 1 gap 1;counter aa at 2 gap 1;ball aaa oak size 1 home a;ball aaaaaaaa oak size 1 home aa;");
        fault("counter abcdefgh at 1 gap 1;counter abcdefgh at 2 gap 1;", 3, 36);
        fault(counters(5) + "counter ca at 6 gap 1;", 3, counters(5).length() + 8);
        fault(counters(5) + "counter ce at 6 gap 1;", 3, counters(5).length() + 8);
        fault(A + balls(5) + "ball ba oak size 1 home a;", 3, (A + balls(5)).length() + 5);
        fault(A + balls(5) + "ball be oak size 1 home a;", 3, (A + balls(5)).length() + 5);
    }

    private void faultsKindAndPlace() {
        edges.of(3, "shop", "FAULTS, kind + 16 * the place (from 0) of a token");
        fault("x", 1, 0);
        fault(" x", 1, 1);
        fault(" ".repeat(998) + "x", 1, 998);
        fault(" ".repeat(999) + "x", 1, 999);
        sound(" ".repeat(1000) + "x");
        fault(" ".repeat(994) + "desk 0", 4, 999);
    }

    private void theEnd() {
        edges.of(3, "shop", "the end being one at the text's length");
        sound("");
        fault("desk", 1, 4);
        fault("desk ", 1, 5);
        fault("desk \n\n", 1, 7);
        fault("desk 1", 1, 6);
        sound("desk 1;");
        fault("counter a at 1 gap 1", 1, 20);
        fault("wears 1", 1, 7);
        fault("wears 1+", 1, 8);
        fault("damp 1", 1, 6);
        fault("desk" + " ".repeat(996), 1, 1000);
        fault("desk" + " ".repeat(996) + "1;", 1, 1000);
    }

    private void firstTokenLeastKind() {
        edges.of(3, "shop", "of the first token from the left that is wrong the least");
        fault("desk 0;desk 0;", 4, 5);
        fault("desk 1;desk 0;", 3, 7);
        fault("counter gap at 0 gap 61;", 1, 8);
        fault("counter a at 0 gap 61;", 4, 13);
        fault(A + "counter a at 1 gap 61;", 3, 29);
        fault(A + "counter b at 1 gap 61;", 3, 34);
        fault("ball b oak size 0 home z;", 4, 16);
        fault("ball b oak size 1 home z", 2, 23);
        fault("damp 1 2 3 4 5 6 7 8 9 8 7 6 9;", 5, 29);
        fault("damp 1 2 3 4 5 6 7 8 9 8 7 6 10;", 4, 29);
        fault("damp 1 2 3 4 5 6 7 8 9 8 7 6 00001;", 1, 29);
        fault("wears (((((1)))));desk 0;", 5, 11);
        fault("wears (((((size)))));desk 0;", 1, 11);
    }

    private void kindOne() {
        edges.of(3, "shop", "1 it is none, or can't stand there");
        String[] sound = {"counter", "a", "at", "1", "gap", "1", ";", "ball", "b", "oak", "size", "1", "home", "a", ";"};
        for (int i = 0; i < sound.length; i++) {
            StringBuilder text = new StringBuilder();
            int place = 0;
            for (int j = 0; j < sound.length; j++) {
                place = j == i ? text.length() : place;
                text.append(j == i ? "?" : sound[j]).append(' ');
            }
            fault(text.toString(), 1, place);
            fault(text.toString().replace('?', '*'), 1, place);
        }
        sound(String.join(" ", sound));
    }

    private void kindTwo() {
        edges.of(3, "shop", "2 a NAME of no COUNTER (behind home, set, the second of carry)");
        sound(A + "ball b oak size 1 home a;");
        fault(A + "ball b oak size 1 home aa;", 2, 44);
        fault(A + "ball b oak size 1 home width;", 2, 44);
        fault(A + "ball b oak size 1 home home;", 1, 44);
    }

    private void kindThree() {
        edges.of(3, "shop", "3 a NAME told already, a place behind at told already; desk, damp, wears a second time");
        sound(A + "counter b at 2 gap 1;ball c oak size 1 home a;");
        fault(A + "counter a at 2 gap 1;", 3, 29);
        fault(A + "counter b at 1 gap 1;", 3, 34);
        fault(A + "ball a oak size 1 home a;", 3, 26);
        // a gap, a size, a home told already are no fault
        sound(A + "counter b at 2 gap 1;ball c oak size 1 home a;ball d oak size 1 home a;");
    }

    private void kindFour() {
        edges.of(3, "shop", "4 a NUMBER that is not as told");
        fault("counter a at 0 gap 1;", 4, 13);
        fault("counter a at 1 gap 61;", 4, 19);
        fault(A + "ball b oak size 0 home a;", 4, 37);
        fault("desk 10;", 4, 5);
        fault("damp 10;", 4, 5);
        sound("wears 0;");
        sound("wears 9999;");
    }

    private void kindFive() {
        edges.of(3, "shop", "5 one too many: the words counter of a seventh, ball of a seventh, a thirteenth NUMBER of "
            + "damp");
        fault(counters(6) + "counter a at 7 gap 1;", 5, counters(6).length());
        fault(counters(6) + "counter ca at 0 gap 61;", 5, counters(6).length());
        fault(A + balls(6) + "ball x oak size 1 home a;", 5, (A + balls(6)).length());
        fault(A + balls(6) + "ball a pine size 0 home z;", 5, (A + balls(6)).length());
        fault("damp 0 0 0 0 0 0 0 0 0 0 0 0 0;", 5, 29);
        sound("damp 0 0 0 0 0 0 0 0 0 0 0 0;" + counters(6) + "ball a oak size 1 home cf;");
    }

    private void isTheShopFromThenOn() {
        edges.of(3, "shop", "day 0, beat 0, gaps and sizes as told, each BALL in the basket of its HOME, no RUN, nothing "
            + "SEEN, nothing can be undone, no MARK is there.");
        String text = Edges.six() + "desk 3;damp 5 6;wears wet-runs;";
        CashBalls again = Edges.lived(Edges::busyUntold);
        again.beat();
        edges.is("one is served", again.count(5), 2);
        edges.is("shop() in a busy one", Due.shop(again, text), 0);
        edges.is("all is as in a new object", Look.at(again).equals(Look.at(Due.opened(text))), true);
        CashBalls same = Due.opened(text);
        same.send(0);
        same.set(5, 0);
        same.day();
        for (int mark = 0; mark <= 3; mark++) {
            same.mark(mark, false);
        }
        same.see(5, 30, true);
        same.carry(1, 3);
        same.beat();
        Due.run(same, "beat;");
        Due.shop(same, text);
        edges.is("the same shop told again", Look.at(same).equals(Look.at(Due.opened(text))), true);
        CashBalls empty = Edges.lived(Edges::busyUntold);
        edges.is("a shop of nothing", empty.shop(), 0);
        edges.is("is as a new object", Look.at(empty).equals(Look.at(new CashBalls())), true);
    }

    private void allStays() {
        edges.of(3, "shop", "0, or its FAULT (all stays then)");
        String whole = "counter z at 7 gap 7;ball y cork size 7 home z;desk 7;damp 7;wears 7;";
        for (int cut = 1; cut < whole.length(); cut++) {
            if (whole.charAt(cut - 1) != ';') {
                String text = whole.substring(0, cut);
                edges.refused("shop() of \"" + text + "\" is a FAULT", Edges::busyUntold,
                    x -> Due.shop(x, text) > 0 ? 1 : 0, 1);
            }
        }
        edges.is("shop() of the whole", Due.shop(Edges.lived(Edges::busyUntold), whole), 0);
    }
}
