/** What the tests share: the findings' numbers, and a tally of the answers that are not as due. */
final class Check {
    static final long BEYOND = -1000000001L;
    static final long FULL = -1000000002L;
    static final long KIND = -1000000003L;
    static final long NONE = -1000000004L;
    static final long STATE = -1000000005L;
    static final long MISSING = -1000000006L;
    static final long SIZE = -1000000007L;
    static final int LEAST = Integer.MIN_VALUE;
    static final int MOST = Integer.MAX_VALUE;

    private static int asked = 0;
    private static int wrong = 0;

    private Check() {
    }

    static void due(String call, long got, long want) {
        asked++;
        if (got != want) {
            wrong++;
            System.out.println(call + " answered " + got + ", due is " + want);
        }
    }

    static void holds(String what, boolean is) {
        due(what, is ? 1 : 0, 1);
    }

    /** Feeds a text's characters as bytes, four at a time. */
    static void feed(FeltHouse x, String text) {
        for (int i = 0; i < text.length(); i += 4) {
            int n = Math.min(4, text.length() - i);
            int bytes = 0;
            for (int k = 0; k < n; k++) {
                bytes = bytes << 8 | text.charAt(i + k) & 255;
            }
            x.feed(bytes, n);
        }
    }

    static int told(FeltHouse x, String text) {
        x.wipe();
        feed(x, text);
        return x.house();
    }

    static void end() {
        System.out.println(asked + " answers asked, " + wrong + " not as due");
        if (wrong != 0 || asked == 0) {
            System.exit(1);
        }
    }
}
