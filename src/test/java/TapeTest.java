/** Promises 1 and 2: a new object, feed. */
final class TapeTest {
    private static final Due DUE = new Due();

    public static void main(String[] args) {
        newObject();
        feedTakesBytesHighestFirst();
        feedLeavesOut();
        feedStopsAtThousand();
        DUE.end();
    }

    private static void newObject() {
        CashBalls x = new CashBalls();
        DUE.is("NONE", CashBalls.NONE, -1);
        for (int what = 0; what <= 13; what++) {
            DUE.is("new count(" + what + ")", x.count(what), what == 9 ? 2 : 0);
        }
        DUE.is("new counter(0, 0)", x.counter(0, 0), -1);
        DUE.is("new ball(0, 0)", x.ball(0, 0), -2);
        DUE.is("new send(0)", x.send(0), -1);
        DUE.is("new set(0, 1)", x.set(0, 1), -1);
        DUE.is("new carry(0, 0)", x.carry(0, 0), -1);
        DUE.is("new undo()", x.undo(), false);
        DUE.is("new falls(0)", x.falls(0), -1);
        DUE.is("new catches(1)", x.catches(1), 6);
        DUE.is("new back(0)", x.back(0), -1);
        DUE.is("new trip(0)", x.trip(0), -1);
        DUE.is("new later(0, 0)", x.later(0, 0), -1);
        DUE.is("new see(0, 0, true)", x.see(0, 0, true), false);
        DUE.is("new mark(0, true)", x.mark(0, true), false);
        DUE.is("new chance(0, 1, 1)", x.chance(0, 1, 1), -1);
        DUE.is("new run()", x.run(), 0);
        DUE.is("new shop()", x.shop(), 0);
    }

    private static void feedTakesBytesHighestFirst() {
        CashBalls x = new CashBalls();
        // "desk 1;w" "xyz" and then nothing: the wrong word is where it stands only if the order holds
        DUE.is("feed", x.feed(0x6465736b20313b77L, 0x78797a0000000000L, 0x3b00000000000020L), 13);
        DUE.is("count(13)", x.count(13), 13);
        DUE.is("shop()", x.shop(), 1 + 16 * 7);
        DUE.is("count(13) once read", x.count(13), 0);
        DUE.is("feed", x.feed(0x6465736b20353b00L, 0, 0), 7);
        DUE.is("shop()", x.shop(), 0);
        DUE.is("count(9)", x.count(9), 5);
        DUE.is("feed", x.feed(0x62L << 56, 0x6561L, 0x743bL << 24), 5);
        DUE.is("run()", x.run(), 0);
        DUE.is("count(10)", x.count(10), 1);
    }

    private static void feedLeavesOut() {
        CashBalls x = new CashBalls();
        DUE.is("feed of 0", x.feed(0, 0, 0), 0);
        DUE.is("feed of 9 11 13 31 127 128 255", x.feed(0x090b0d1f7f80ffffL, -1L, 0x8182838485868788L), 0);
        DUE.is("feed of 10 32 126", x.feed(0x0a207e0000000000L, 0, 0), 3);
        DUE.is("~ is no token", x.shop(), 1 + 16 * 2);
    }

    private static void feedStopsAtThousand() {
        CashBalls x = new CashBalls();
        long blanks = 0x2020202020202020L;
        for (int i = 1; i <= 41; i++) {
            DUE.is("feed of blanks", x.feed(blanks, blanks, blanks), 24 * i);
        }
        DUE.is("feed up to 998", x.feed(blanks, 0x2020202020200000L, 0), 998);
        DUE.is("feed of desk 3;", x.feed(0x6465736b20333b00L, 0, 0), 1000);
        DUE.is("feed of more", x.feed(blanks, blanks, blanks), 1000);
        DUE.is("count(13)", x.count(13), 1000);
        DUE.is("run() of de", x.run(), 1 + 16 * 998);
        DUE.is("feed again", x.feed(blanks, 0, 0), 8);
    }
}
