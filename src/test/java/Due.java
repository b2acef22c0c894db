/** Counts the answers of a test that are not as due, and feeds texts. */
final class Due {
    static final String DRAPER = "counter silk at 3 gap 5;counter hose at 6 gap 9;counter lace at 9 gap 7;"
        + "counter glove at 12 gap 14;ball bs plain size 4 home silk;ball bh oak size 8 home hose;"
        + "ball bl willow size 6 home lace;ball bg cork size 12 home glove;damp 0 6;wears 1-(3<wet)*3;";

    private int wrong = 0;
    private int asked = 0;

    void is(String call, long got, long want) {
        asked++;
        if (got != want) {
            wrong++;
            System.out.println(call + " answered " + got + ", due is " + want);
        }
    }

    void is(String call, boolean got, boolean want) {
        is(call, got ? 1 : 0, want ? 1 : 0);
    }

    /** The test ends with exit code 1 if an answer was wrong, or none was asked. */
    void end() {
        System.out.println("  " + asked + " answers, " + wrong + " wrong");
        if (wrong != 0 || asked == 0) {
            System.exit(1);
        }
    }

    static int feed(CashBalls x, String text) {
        int there = x.count(13);
        for (int i = 0; i < text.length(); i += 24) {
            there = x.feed(eight(text, i), eight(text, i + 8), eight(text, i + 16));
        }
        return there;
    }

    private static long eight(String text, int from) {
        long bytes = 0;
        for (int i = from; i < from + 8; i++) {
            bytes = bytes << 8 | (i < text.length() ? text.charAt(i) & 255 : 0);
        }
        return bytes;
    }

    static int shop(CashBalls x, String text) {
        feed(x, text);
        return x.shop();
    }

    static int run(CashBalls x, String text) {
        feed(x, text);
        return x.run();
    }

    /** A new object with this shop, which must be without a fault. */
    static CashBalls opened(String text) {
        CashBalls x = new CashBalls();
        int fault = shop(x, text);
        if (fault != 0) {
            throw new IllegalStateException("the test's own shop has fault " + fault + ": " + text);
        }
        return x;
    }
}
