/** Promise 4: run. */
final class RunEdges {
    private static final String[] RESERVED = {"counter", "at", "gap", "ball", "size", "home", "desk", "damp", "wears",
        "beat", "send", "set", "carry", "day", "plain", "oak", "willow", "cork", "not", "and", "or"};

    private final Edges edges;

    private RunEdges(Edges edges) {
        this.edges = edges;
    }

    static void hold(Edges edges) {
        RunEdges r = new RunEdges(edges);
        r.anyNumberOf();
        r.fortyLines();
        r.firstWordOf41st();
        r.gap();
        r.balls();
        r.counters();
        r.names();
        r.end();
        r.isTheRun();
        r.likewise();
    }

    private void sound(String text, int lines) {
        CashBalls x = Edges.lived(Edges::busyUntold);
        edges.is("run() of \"" + text + "\"", Due.run(x, text), 0);
        edges.is("lines of \"" + text + "\"", x.count(10), lines);
    }

    private void fault(String text, int kind, int place) {
        edges.refused("run() of \"" + text + "\"", Edges::busyUntold, x -> Due.run(x, text), kind + 16 * place);
    }

    private void anyNumberOf() {
        edges.of(4, "run", "RUN: any number of");
        sound("", 0);
        sound("\n ", 0);
        sound("beat;", 1);
        sound("day;", 1);
        sound("send p;", 1);
        sound("set a 0;", 1);
        sound("carry p b;", 1);
        sound("beat;send p;set a 0;carry p b;day;", 5);
        fault(";", 1, 0);
        fault("beat;;", 1, 5);
        fault("beat day;", 1, 5);
        fault("desk 1;", 1, 0);
        fault("counter", 1, 0);
        fault("beats;", 1, 0);
        fault("1;", 1, 0);
        CashBalls x = new CashBalls();
        edges.is("without a shop", Due.run(x, "beat;day;"), 0);
        edges.is("lines", x.count(10), 2);
    }

    private void fortyLines() {
        edges.of(4, "run", "40 lines at most");
        sound("day;".repeat(39), 39);
        sound("day;".repeat(40), 40);
        fault("day;".repeat(41), 5, 160);
        sound("carry p b;set a 60;".repeat(20), 40);
        fault("beat;".repeat(200), 5, 200);
    }

    private void firstWordOf41st() {
        edges.of(4, "run", "the first word of a 41st line of a RUN");
        String forty = "beat;".repeat(40);
        sound(forty + " \n", 40);
        fault(forty + "beat", 5, 200);
        fault(forty + "day;", 5, 200);
        fault(forty + " send z;", 5, 201);
        fault(forty + "set a 61;", 5, 200);
        fault(forty + "carry", 5, 200);
        fault(forty + ";", 1, 200);
        fault(forty + "rest;", 1, 200);
        fault("beat;".repeat(39) + "send z;beat;", 2, 200);
    }

    private void gap() {
        edges.of(4, "run", "a COUNTER's gap, 0 to 60");
        sound("set a 0;", 1);
        sound("set a 60;", 1);
        sound("set a 0060;", 1);
        fault("set a 61;", 4, 6);
        fault("set a 9999;", 4, 6);
        fault("set a 10000;", 1, 6);
        fault("set a -1;", 1, 6);
        fault("set a ;", 1, 6);
        fault("set a a;", 1, 6);
        CashBalls x = Due.opened("counter a at 1 gap 9;ball p plain size 60 home a;desk 1;");
        Due.run(x, "set a 60;send p;day;");
        edges.is("60 is so wide", x.judged(1), -1);
        Due.run(x, "set a 59;send p;day;");
        edges.is("59 is not", x.judged(1), 2);
        Due.run(x, "set a 60;set a 0;send p;day;");
        edges.is("0 is not", x.judged(1), 3);
    }

    private void balls() {
        edges.of(4, "run", "of no BALL (behind send, carry) told");
        sound("send p;send t;carry p a;carry t c;", 4);
        fault("send u;", 2, 5);
        fault("send a;", 2, 5);
        fault("carry u a;", 2, 6);
        fault("carry a a;", 2, 6);
        fault("send ;", 1, 5);
        fault("send 1;", 1, 5);
        fault("send p p;", 1, 7);
        fault("send p u;", 1, 7);
        CashBalls x = new CashBalls();
        edges.is("none is told", Due.run(x, "send p;"), 2 + 16 * 5);
    }

    private void counters() {
        edges.of(4, "run", "2 a NAME of no COUNTER (behind home, set, the second of carry)");
        sound("set a 1;set b 1;set c 1;carry p a;carry p b;carry p c;", 6);
        fault("set d 1;", 2, 4);
        fault("set p 1;", 2, 4);
        fault("carry p d;", 2, 8);
        fault("carry p p;", 2, 8);
        fault("carry p;", 1, 7);
        fault("carry p 1;", 1, 8);
        fault("set 1 1;", 1, 4);
        fault("set d 61;", 2, 4);
        fault("carry u d;", 2, 6);
        CashBalls x = new CashBalls();
        edges.is("none is told", Due.run(x, "set a 1;"), 2 + 16 * 4);
    }

    private void names() {
        edges.of(4, "run", "A NAME is another WORD than counter");
        for (String word : RESERVED) {
            fault("send " + word + ";", 1, 5);
            fault("set " + word + " 1;", 1, 4);
            fault("carry " + word + " a;", 1, 6);
            fault("carry p " + word + ";", 1, 8);
        }
        fault("send width;", 2, 5);
        fault("send abcdefgh;", 2, 5);
        fault("send abcdefghi;", 1, 5);
    }

    private void end() {
        edges.of(4, "run", "the end being one at the text's length");
        String[] texts = {"beat", "day", "send", "send p", "set", "set a", "set a 1", "carry", "carry p", "carry p b"};
        for (String text : texts) {
            fault(text, 1, text.length());
            fault(text + " \n", 1, text.length() + 2);
            fault("beat;" + text, 1, text.length() + 5);
        }
        fault("beat" + " ".repeat(996), 1, 1000);
        sound("beat;" + " ".repeat(995), 1);
        sound("beat;" + " ".repeat(995) + "beat", 1);
    }

    private void isTheRun() {
        edges.of(4, "run", "A RUN is the RUN.");
        CashBalls x = Edges.lived(Edges::busyUntold);
        CashBalls y = Edges.lived(Edges::busyUntold);
        edges.is("another run", Due.run(x, "carry q b;"), 0);
        edges.is("lines", x.count(10), 1);
        edges.is("judged(1)", x.judged(1), 0);
        edges.is("the run of ahead, once more", Due.run(x, "send p;beat;day;carry q a;"), 0);
        edges.is("nothing but the run was another one", Look.at(x).equals(Look.at(y)), true);
        CashBalls z = Edges.lived(Edges::busyUntold);
        edges.is("a run of no lines", z.run(), 0);
        edges.is("lines", z.count(10), 0);
        edges.is("judged(1)", z.judged(1), -1);
        edges.is("what can be undone stays", z.count(12), 10);
        edges.is("what is SEEN stays", z.count(11), 1);
    }

    private void likewise() {
        edges.of(4, "run", "The TAPE is read as a RUN, likewise.");
        String whole = "send q;set b 7;carry p c;beat;day;";
        for (int cut = 1; cut < whole.length(); cut++) {
            if (whole.charAt(cut - 1) != ';') {
                String text = whole.substring(0, cut);
                edges.refused("run() of \"" + text + "\" is a FAULT", Edges::busyUntold,
                    x -> Due.run(x, text) > 0 ? 1 : 0, 1);
            }
        }
        sound(whole, 5);
    }
}
