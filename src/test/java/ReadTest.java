/** Promises 3 and 4: shop, run, with all faults. */
final class ReadTest {
    private static final Due DUE = new Due();
    private static final String A = "counter a at 1 gap 1;";
    private static final String B = "ball b oak size 1 home a;";

    public static void main(String[] args) {
        soundShops();
        tokens();
        names();
        numbers();
        toldTwice();
        tooMany();
        law();
        runs();
        shopBeginsAnew();
        faultLeavesAll();
        fullTapes();
        DUE.end();
    }

    private static void shop(String text, int kind, int place) {
        DUE.is("shop() of " + text, Due.shop(new CashBalls(), text), kind + 16 * place);
    }

    private static void sound(String text) {
        shop(text, 0, 0);
    }

    private static void run(String text, int kind, int place) {
        DUE.is("run() of " + text, Due.run(Due.opened(Due.DRAPER), text), kind + 16 * place);
    }

    private static void soundShops() {
        sound("");
        sound(" \n \n");
        sound(A + B);
        sound("desk 9;wears 1;damp 0 9 0;" + A + B);
        sound("counter a at 20 gap 60;ball b cork size 60 home a;");
        sound("counter\na\nat\n1\ngap\n0\n;ball b willow size 1 home a ;");
        sound("desk1;damp1 2 3;counter x at0001gap0060;");
        sound("counter width at 1 gap 1;counter runs at 2 gap 1;counter wet at 3 gap 1;counter date at 4 gap 1;");
        sound("counter abcdefgh at 1 gap 1;");
        sound("desk 0009;");
    }

    private static void tokens() {
        shop("desk", 1, 4);
        shop("desk  ", 1, 6);
        shop("desk 1", 1, 6);
        shop("desk 1 \n", 1, 8);
        shop("desk ;", 1, 5);
        shop("desk 1 2;", 1, 7);
        shop("desk 1;;", 1, 7);
        shop(";", 1, 0);
        shop("5;", 1, 0);
        shop("Desk 1;", 1, 0);
        shop("desk 1.;", 1, 6);
        shop("desk 00001;", 1, 5);
        shop("desks 1;", 1, 0);
        shop("beat;", 1, 0);
        shop("counters a at 1 gap 1;", 1, 0);
        shop("counter abcdefghi at 1 gap 1;", 1, 8);
        shop("counter a at 1abcdefghi", 1, 14);
        shop("counter 1 at 1 gap 1;", 1, 8);
        shop("counter a gap 1 at 1;", 1, 10);
        shop("counter a at x gap 1;", 1, 13);
        shop("counter a at 1 at 1;", 1, 15);
        shop("ball b pine size 1 home a;", 1, 7);
        shop("ball b oak size x", 1, 16);
        shop("ball b oak gap 1", 1, 11);
        shop(A + "ball b oak size 1 home a 1;", 1, 46);
        shop(A + "ball b oak size 1 home 7;", 1, 44);
        shop("damp ;", 1, 5);
        shop("damp x;", 1, 5);
        shop("damp 1 x;", 1, 7);
        shop("damp 1,2;", 1, 6);
    }

    private static void names() {
        String[] reserved = {"counter", "at", "gap", "ball", "size", "home", "desk", "damp", "wears", "beat",
            "send", "set", "carry", "day", "plain", "oak", "willow", "cork", "not", "and", "or"};
        for (String word : reserved) {
            shop("counter " + word + " at 1 gap 1;", 1, 8);
            shop("ball " + word + " oak size 1 home a;", 1, 5);
            shop(A + "ball b oak size 1 home " + word + ";", 1, 44);
            run("send " + word + ";", 1, 5);
            run("set " + word + " 1;", 1, 4);
            run("carry bs " + word + ";", 1, 9);
        }
        shop(B, 2, 23);
        shop(B + A, 2, 23);
        shop(A + "ball b oak size 1 home b;", 2, 44);
        shop(A + B + "ball c oak size 1 home b;", 2, 69);
    }

    private static void numbers() {
        shop("counter a at 0 gap 1;", 4, 13);
        shop("counter a at 21 gap 1;", 4, 13);
        shop("counter a at 9999 gap 1;", 4, 13);
        shop("counter a at 1 gap 61;", 4, 19);
        shop("ball b oak size 0 home a;", 4, 16);
        shop("ball b oak size 61 home a;", 4, 16);
        shop("desk 0;", 4, 5);
        shop("desk 10;", 4, 5);
        shop("damp 10;", 4, 5);
        shop("damp 9 10;", 4, 7);
    }

    private static void toldTwice() {
        shop(A + "counter a at 2 gap 1;", 3, 29);
        shop(A + "counter b at 1 gap 1;", 3, 34);
        shop(A + "ball a oak size 1 home a;", 3, 26);
        shop(A + B + "ball b oak size 1 home a;", 3, 51);
        shop(A + B + "counter b at 2 gap 1;", 3, 54);
        shop("desk 1;desk 1;", 3, 7);
        shop("damp 1;damp 1;", 3, 7);
        shop("wears 1;wears 1;", 3, 8);
        shop("desk 2;desk", 3, 7);
    }

    private static void tooMany() {
        StringBuilder six = new StringBuilder();
        for (int i = 0; i < 6; i++) {
            six.append("counter ").append((char) ('a' + i)).append(" at ").append(i + 1).append(" gap 1;");
        }
        sound(six.toString());
        shop(six + "counter g at 7 gap 1;", 5, 6 * 21);
        shop(six + "counter", 5, 6 * 21);
        for (int i = 0; i < 6; i++) {
            six.append("ball ").append((char) ('m' + i)).append(" oak size 1 home a;");
        }
        sound(six.toString());
        shop(six + "ball z oak size 1 home a;", 5, 6 * 21 + 6 * 25);
        sound("damp 1 2 3 4 5 6 7 8 9 8 7 6;");
        shop("damp 1 2 3 4 5 6 7 8 9 8 7 6 5;", 5, 29);
        shop("damp 1 2 3 4 5 6 7 8 9 8 7 6 10;", 4, 29);
        shop("damp 1 2 3 4 5 6 7 8 9 8 7 6 11111;", 1, 29);
        shop("damp 1 2 3 4 5 6 7 8 9 8 7 6 x;", 1, 29);
    }

    private static void law() {
        sound("wears ((((1))))+((((2))));");
        sound("wears not not not not 1;");
        sound("wears (1<2)<3 and not(wet=2) or date*runs-width;");
        sound("wears not1;");
        sound("wears 1and 2or 3;");
        shop("wears (((((1)))));", 5, 11);
        shop("wears (((((wet)))));", 5, 11);
        shop("wears ((((((1))))));", 5, 11);
        shop("wears (((((not 1)))));", 5, 11);
        shop("wears (((((;", 1, 11);
        shop("wears (((((gap", 1, 11);
        shop("wears (((((", 1, 11);
        shop("wears (((((12345", 1, 11);
        shop("wears not not not not not 1;", 5, 26);
        shop("wears not not not not not not 1;", 5, 26);
        shop("wears (not(not(1)));", 5, 15);
        shop("wears ;", 1, 6);
        shop("wears 1<2<3;", 1, 9);
        shop("wears 1<2=3;", 1, 9);
        shop("wears 1+;", 1, 8);
        shop("wears -1;", 1, 6);
        shop("wears 1 2;", 1, 8);
        shop("wears 1 not 2;", 1, 8);
        shop("wears (1;", 1, 8);
        shop("wears ();", 1, 7);
        shop("wears 1);", 1, 7);
        shop("wears 1 and;", 1, 11);
        shop("wears not;", 1, 9);
        shop("wears 1", 1, 7);
        shop("wears silk;", 1, 6);
        shop("wears 12345;", 1, 6);
        shop("wears 1++2;", 1, 8);
        shop("wears 1/2;", 1, 7);
    }

    private static void runs() {
        run("", 0, 0);
        run("beat;send bs;set silk 0;set glove 60;carry bs hose;day;", 0, 0);
        run("beat 1;", 1, 5);
        run("beat", 1, 4);
        run("rest;", 1, 0);
        run("counter", 1, 0);
        run("day day;", 1, 4);
        run("send;", 1, 4);
        run("send bs bs;", 1, 8);
        run("send zz;", 2, 5);
        run("send silk;", 2, 5);
        run("set zz 1;", 2, 4);
        run("set bs 1;", 2, 4);
        run("set silk;", 1, 8);
        run("set silk 61;", 4, 9);
        run("set silk 00000;", 1, 9);
        run("carry silk hose;", 2, 6);
        run("carry bs bh;", 2, 9);
        run("carry bs;", 1, 8);
        run("carry bs hose", 1, 13);
        StringBuilder forty = new StringBuilder();
        for (int i = 0; i < 40; i++) {
            forty.append("beat;");
        }
        run(forty.toString(), 0, 0);
        run(forty + "beat;", 5, 200);
        run(forty + "send zz;", 5, 200);
        run(forty + " day", 5, 201);
        run(forty + "foo;", 1, 200);
        run(forty + ";", 1, 200);
    }

    private static void fullTapes() {
        shop(";".repeat(1000), 1, 0);
        shop("desk 1;" + "\n".repeat(993), 0, 0);
        shop("wears " + "(".repeat(994), 5, 11);
        shop("wears " + "1+".repeat(496) + "1;", 0, 0);
        shop("wears " + "1+".repeat(496) + "10;", 1, 1000);
        shop("a".repeat(1000), 1, 0);
        shop("desk " + "1".repeat(995), 1, 5);
        String law = "wears " + "1+".repeat(450) + "1-448;";
        CashBalls x = Due.opened("counter a at 1 gap 9;ball b plain size 9 home a;" + law);
        DUE.is("451 - 448", x.later(0, 1), 6);
        CashBalls y = Due.opened(Due.DRAPER);
        DUE.is("a full tape of a run", Due.run(y, "beat;".repeat(39) + " ".repeat(800) + "beat;"), 0);
        DUE.is("forty lines", y.count(10), 40);
    }

    private static void shopBeginsAnew() {
        CashBalls x = Due.opened(Due.DRAPER);
        Due.run(x, "beat;day;");
        x.send(0);
        x.day();
        x.send(1);
        x.beat();
        x.see(0, 1, true);
        x.mark(2, false);
        DUE.is("count(10)", x.count(10), 2);
        DUE.is("shop() again", Due.shop(x, Due.DRAPER), 0);
        int[] what = {2, 3, 5, 6, 7, 8, 10, 11, 12, 13};
        for (int w : what) {
            DUE.is("a new shop's count(" + w + ")", x.count(w), 0);
        }
        DUE.is("a new shop's size", x.ball(0, 1), 4);
        DUE.is("a new shop's runs", x.ball(1, 5), 0);
        DUE.is("a new shop's mark", x.mark(2, true), false);
        DUE.is("a new shop's undo", x.undo(), false);
        DUE.is("an empty tape is a shop", x.shop(), 0);
        DUE.is("of no counters", x.count(0), 0);
        DUE.is("of no balls", x.count(1), 0);
        DUE.is("with the desk's 2", x.count(9), 2);
    }

    private static void faultLeavesAll() {
        CashBalls x = Due.opened(Due.DRAPER);
        Due.run(x, "beat;day;");
        x.set(0, 7);
        x.see(1, 2, false);
        x.mark(0, false);
        DUE.is("a faulty shop", Due.shop(x, "counter z at 1 gap 1;desk 5;damp 9;wears 3;ball"), 1 + 16 * 47);
        DUE.is("counters stay", x.count(0), 4);
        DUE.is("desk stays", x.count(9), 2);
        DUE.is("damp stays", x.count(4), 0);
        DUE.is("gap stays", x.counter(0, 1), 7);
        DUE.is("law stays", x.later(0, 1), 3);
        DUE.is("run stays", x.count(10), 2);
        DUE.is("seen stays", x.count(11), 1);
        DUE.is("undo stays", x.count(12), 1);
        DUE.is("tape is taken", x.count(13), 0);
        DUE.is("a faulty run", Due.run(x, "beat;beat;beat;send"), 1 + 16 * 19);
        DUE.is("run stays", x.count(10), 2);
        DUE.is("tape is taken", x.count(13), 0);
        DUE.is("mark stays", x.mark(0, true), true);
        DUE.is("an empty run", x.run(), 0);
        DUE.is("has no lines", x.count(10), 0);
    }
}
