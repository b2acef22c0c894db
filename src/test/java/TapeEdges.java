/** Promises 1 and 2, and what of the TAPE is read as TOKENS. */
final class TapeEdges {
    private static final long BLANKS = 0x2020202020202020L;
    private static final String SIGNS = "()<=+-*;";

    private final Edges edges;

    private TapeEdges(Edges edges) {
        this.edges = edges;
    }

    static void hold(Edges edges) {
        TapeEdges t = new TapeEdges(edges);
        t.newObject();
        t.upTo24();
        t.highestFirst();
        t.leftOut();
        t.thousand();
        t.taken();
        t.words();
        t.letters();
        t.numbers();
        t.letterBehind();
        t.digits();
        t.signs();
        t.blanks();
        t.asLongAsCanBe();
        t.atItsFirstSign();
    }

    private void shop(String text, int kind, int place) {
        edges.is("shop() of \"" + text + "\"", Due.shop(new CashBalls(), text), kind + 16 * place);
    }

    private void newObject() {
        edges.of(1, "A new object", "At first: nothing.");
        CashBalls x = new CashBalls();
        for (int what = 0; what <= 13; what++) {
            edges.is("count(" + what + ")", x.count(what), what == 9 ? 2 : 0);
        }
        edges.is("counter(0, 0)", x.counter(0, 0), -1);
        edges.is("ball(0, 0)", x.ball(0, 0), -2);
        edges.is("undo()", x.undo(), false);
        for (int mark = 0; mark <= 3; mark++) {
            edges.is("mark(" + mark + ", true)", x.mark(mark, true), false);
        }
        edges.is("who()", x.who(), 0);
        edges.is("judged(0)", x.judged(0), -1);
        edges.is("judged(1)", x.judged(1), -1);
        edges.is("judged(2)", x.judged(2), 0);
        edges.is("catches(1)", x.catches(1), 6);
        edges.is("catches(60)", x.catches(60), 6);
        edges.is("rest()", x.rest(), 0);
        edges.is("day()", x.day(), 0);
        edges.is("beat()", x.beat(), 0);
    }

    private void upTo24() {
        edges.of(2, "feed", "Up to 24 signs come behind the TAPE");
        edges.is("no sign", new CashBalls().feed(0, 0, 0), 0);
        edges.is("1 sign", new CashBalls().feed(0, 0, 'a'), 1);
        edges.is("23 signs", new CashBalls().feed(BLANKS, BLANKS, BLANKS << 8), 23);
        CashBalls x = new CashBalls();
        edges.is("24 signs", x.feed(BLANKS, BLANKS, BLANKS), 24);
        edges.is("24 signs behind", x.feed(BLANKS, BLANKS, BLANKS), 48);
        edges.is("none behind", x.feed(0, 0, 0), 48);
        edges.is("1 sign behind", x.feed('~', 0, 0), 49);
        edges.is("the ~ is behind all", x.shop(), 1 + 16 * 48);
    }

    private void highestFirst() {
        edges.of(2, "feed", "the bytes of a, b, c, of each the highest first");
        for (int i = 0; i < 24; i++) {
            long[] abc = {BLANKS, BLANKS, BLANKS};
            int shift = 56 - 8 * (i % 8);
            abc[i / 8] ^= (long) (' ' ^ '~') << shift;
            CashBalls x = new CashBalls();
            x.feed(abc[0], abc[1], abc[2]);
            edges.is("the ~ of byte " + i, x.shop(), 1 + 16 * i);
        }
    }

    private void leftOut() {
        edges.of(2, "feed", "others than 10 and 32 .. 126, and what is beyond 1,000, are left out");
        CashBalls high = new CashBalls();
        CashBalls low = new CashBalls();
        int there = 0;
        for (long sign = 0; sign <= 255; sign++) {
            there += sign == 10 || sign >= 32 && sign <= 126 ? 1 : 0;
            edges.is("byte " + sign + ", highest of a", high.feed(sign << 56, 0, 0), there);
            edges.is("byte " + sign + ", lowest of c", low.feed(0, 0, sign), there);
        }
        edges.is("all in all", there, 96);
        // 9, 11, 31, 127, 128, 138 (10 by seven bits), 160 (32 so) and 255 lie between the two letters of a word
        CashBalls x = new CashBalls();
        edges.is("d e s k and others", x.feed(0x640965_0b731f6bL, 0x207f3180_8aa0ff00L, 0x3bL << 32), 7);
        edges.is("desk 1; is read", x.shop(), 0);
        edges.is("desk", x.count(9), 1);
    }

    private static CashBalls fed(int signs) {
        CashBalls x = new CashBalls();
        Due.feed(x, " ".repeat(signs));
        return x;
    }

    private void thousand() {
        edges.of(2, "feed", "The TAPE has at most 1,000 signs");
        edges.is("999", fed(999).count(13), 999);
        edges.is("1000", fed(1000).count(13), 1000);
        edges.is("1001", fed(1001).count(13), 1000);
        edges.is("one more on 999", fed(999).feed('a', 0, 0), 1000);
        edges.is("one more on 1000", fed(1000).feed('a', 0, 0), 1000);
        edges.is("24 more on 976", fed(976).feed(BLANKS, BLANKS, BLANKS), 1000);
        edges.is("24 more on 977", fed(977).feed(BLANKS, BLANKS, BLANKS), 1000);
        CashBalls within = fed(999);
        within.feed('~', 0, 0);
        edges.is("the 1000th is on the TAPE", within.shop(), 1 + 16 * 999);
        CashBalls beyond = fed(1000);
        beyond.feed('~', 0, 0);
        edges.is("the 1001st is not", beyond.shop(), 0);
        CashBalls half = fed(996);
        half.feed(0x6465736b20313bL, 0, 0);
        edges.is("of desk 1; the first four", half.shop(), 1 + 16 * 1000);
        edges.refused("feed of a full TAPE", x -> Due.feed(x, ";".repeat(1000)), x -> x.feed(BLANKS, -1, 'a'), 1000);
        edges.refused("feed of none", Edges::busy, x -> x.feed(0x0908070605040302L, -1, 127), 6);
    }

    private void taken() {
        edges.of(2, "feed", "what reads it takes it: it is empty then");
        String[] shops = {"", "desk 1;", "desk 0;", "desk", " ", ";".repeat(1000)};
        for (String text : shops) {
            CashBalls x = new CashBalls();
            Due.feed(x, text);
            edges.is("on the TAPE", x.count(13), text.length());
            x.shop();
            edges.is("behind shop() of " + text, x.count(13), 0);
            Due.feed(x, text);
            x.run();
            edges.is("behind run() of " + text, x.count(13), 0);
            edges.is("a sign", x.feed('a', 0, 0), 1);
        }
        CashBalls x = new CashBalls();
        Due.run(x, "beat;beat;");
        edges.is("read once", x.count(10), 2);
        x.run();
        edges.is("the lines are not read twice", x.count(10), 0);
        CashBalls y = new CashBalls();
        Due.shop(y, "desk");
        edges.is("what was wrong is gone", Due.shop(y, " 1;"), 1 + 16);
        edges.is("what was wrong is gone", Due.shop(y, "desk 3;"), 0);
    }

    private void words() {
        edges.of(3, "shop", "WORDS (letters a .. z, 8 at most)");
        shop("counter a at 1 gap 1;", 0, 0);
        shop("counter abcdefg at 1 gap 1;", 0, 0);
        shop("counter abcdefgh at 1 gap 1;", 0, 0);
        shop("counter abcdefghi at 1 gap 1;", 1, 8);
        shop("counter abcdefghijklmnop at 1 gap 1;", 1, 8);
        shop("counter z at 1 gap 1;ball abcdefgh oak size 1 home z;", 0, 0);
        shop("counter z at 1 gap 1;ball abcdefghi oak size 1 home z;", 1, 26);
        shop("countercounter", 1, 0);
    }

    private void letters() {
        edges.of(3, "shop", "letters a .. z");
        for (char sign = 33; sign <= 126; sign++) {
            boolean letter = sign >= 'a' && sign <= 'z';
            shop("counter " + sign + " at 1 gap 1;", letter ? 0 : 1, letter ? 0 : 8);
            shop("counter x" + sign + " at 1 gap 1;", letter ? 0 : 1, letter ? 0 : 9);
        }
    }

    private void numbers() {
        edges.of(3, "shop", "NUMBERS (1 to 4 digits;");
        shop("desk ;", 1, 5);
        shop("desk 9;", 0, 0);
        shop("desk 09;", 0, 0);
        shop("desk 0009;", 0, 0);
        shop("desk 00009;", 1, 5);
        shop("desk 000000009;", 1, 5);
        shop("wears 9999;", 0, 0);
        shop("wears 10000;", 1, 6);
        shop("wears 4294967297;", 1, 6);
        shop("wears 18446744073709551617;", 1, 6);
    }

    private void letterBehind() {
        edges.of(3, "shop", "a letter may stand right behind");
        shop("counter a at 1gap 1;", 0, 0);
        shop("counter a at 0001gap 1;", 0, 0);
        shop("counter a at 00001gap 1;", 1, 13);
        shop("desk 1a;", 1, 6);
        shop("wears 1and 2;", 0, 0);
        shop("wears 1andy 2;", 1, 7);
        shop("counter a at1gap1;", 0, 0);
    }

    private void digits() {
        edges.of(3, "shop", "(1 to 4 digits;");
        for (char sign = 33; sign <= 126; sign++) {
            if (sign != '(' && (sign < 'a' || sign > 'z')) {
                boolean digit = sign >= '0' && sign <= '9';
                shop("wears " + sign + ";", digit ? 0 : 1, digit ? 0 : 6);
            }
        }
        CashBalls x = Due.opened("counter a at 1 gap 60;ball b plain size 60 home a;wears 9=0009;");
        edges.is("9 is 0009", x.later(0, 1), 59);
        CashBalls y = Due.opened("counter a at 1 gap 60;ball b plain size 60 home a;wears 9998<9999;");
        edges.is("9998 is less than 9999", y.later(0, 1), 59);
    }

    private void signs() {
        edges.of(3, "shop", "the signs ( ) < = + - * ;");
        shop("wears (1<2)+(3=4)-5*6;", 0, 0);
        for (char sign = 33; sign <= 126; sign++) {
            boolean letter = sign >= 'a' && sign <= 'z' || sign >= '0' && sign <= '9';
            if (!letter) {
                boolean joins = "<=+-*".indexOf(sign) >= 0;
                boolean ends = sign == ';';
                shop("wears 1" + sign + "1;", joins ? 0 : 1, joins ? 0 : ends ? 8 : 7);
            }
        }
        edges.is("signs that are tokens", SIGNS.length(), 8);
    }

    private void blanks() {
        edges.of(3, "shop", "blanks (10, 32) between where one likes");
        String[] tokens = {"counter", "a", "at", "1", "gap", "2", ";", "ball", "b", "cork", "size", "3", "home", "a",
            ";", "desk", "4", ";", "damp", "5", "6", ";", "wears", "(", "1", "<", "2", ")", "=", "3", "+", "4", "-",
            "5", "*", "6", ";"};
        String[] blanks = {" ", "\n", "  ", "\n\n", " \n", "\n "};
        for (String blank : blanks) {
            String text = blank + String.join(blank, tokens) + blank;
            shop(text, 0, 0);
            shop(text.replace("desk", "disk"), 1, text.indexOf("desk"));
        }
        shop("counter a at1gap2;ball b cork size3home a;desk4;damp5 6;wears(1<2)=3+4-5*6;", 0, 0);
        shop("d esk 1;", 1, 0);
        shop("desk\t1\r;", 0, 0);
    }

    private void asLongAsCanBe() {
        edges.of(3, "shop", "TOKENS, each as long as can be");
        shop("countera at 1 gap 1;", 1, 0);
        shop("counter aat 1 gap 1;", 1, 12);
        shop("desk 12;", 4, 5);
        shop("desk 1 2;", 1, 7);
        shop("damp 12;", 4, 5);
        shop("damp 1 2;", 0, 0);
        shop("wears notwet;", 1, 6);
        shop("wears not wet;", 0, 0);
    }

    private void atItsFirstSign() {
        edges.of(3, "shop", "All else (a longer WORD or NUMBER, too, at its first sign) is none.");
        shop("abcdefghi", 1, 0);
        shop(" abcdefghi", 1, 1);
        shop("12345", 1, 0);
        shop("\n12345", 1, 1);
        shop("counter abcdefghijk", 1, 8);
        shop("counter a at 12345", 1, 13);
        shop("counter a at 1 gap 1;!", 1, 21);
        shop("desk 1", 1, 6);
        shop("desk 1:", 1, 6);
        shop("desk 1;A", 1, 7);
        shop("desk 1;1", 1, 7);
    }
}
