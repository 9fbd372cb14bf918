import java.util.Arrays;
import java.util.function.Consumer;
import java.util.function.ToLongFunction;

/**
 * Two houses made by the same calls. One alone gets an act that is refused; then all that can be
 * asked of them is asked of both (which may change them: they aren't used again) and must be the same.
 * A pair's calls stay below the 512 that an object is made for.
 */
final class Twin {
    private static final int FINDINGS = 7;
    private static final int PART_NUMBERS = 6;
    private static final int CAMP_NUMBERS = 13;

    private final long[] answers = new long[500];
    private int size;

    private Twin() {
    }

    /** The act answers a finding, which is counted once, and changes nothing else. */
    static void refused(String call, Consumer<FeltHouse> made, ToLongFunction<FeltHouse> act, long finding) {
        FeltHouse touched = new FeltHouse();
        FeltHouse other = new FeltHouse();
        made.accept(touched);
        made.accept(other);
        Edge.past(call, act.applyAsLong(touched), finding);
        for (int which = 0; which < FINDINGS; which++) {
            int more = Check.BEYOND - which == finding ? 1 : 0;
            Edge.past(call + ", then status(" + which + ")", touched.status(which), other.status(which) + more);
        }
        Edge.past(call + ", then status(-1)", touched.status(-1), other.status(-1) + 1);
        Edge.past(call + ", the first answer that isn't as without it", firstOther(touched, other), -1);
    }

    /** Both acts leave the same behind them. */
    static void same(String call, Consumer<FeltHouse> made, Consumer<FeltHouse> act, Consumer<FeltHouse> asThis) {
        FeltHouse touched = new FeltHouse();
        FeltHouse other = new FeltHouse();
        made.accept(touched);
        made.accept(other);
        act.accept(touched);
        asThis.accept(other);
        for (int which = -1; which < FINDINGS; which++) {
            Edge.past(call + ", then status(" + which + ")", touched.status(which), other.status(which));
        }
        Edge.past(call + ", the first answer that isn't the same", firstOther(touched, other), -1);
    }

    private static int firstOther(FeltHouse a, FeltHouse b) {
        return Arrays.mismatch(answersOf(a), answersOf(b));
    }

    private static long[] answersOf(FeltHouse x) {
        Twin t = new Twin();
        t.askSheets(x);
        t.askStock(x);
        t.askTape(x);
        t.add(x.undo());
        t.askStock(x);
        return Arrays.copyOf(t.answers, t.size);
    }

    private void add(long answer) {
        if (size < answers.length) {
            answers[size] = answer;
            size++;
        }
    }

    private void askStock(FeltHouse x) {
        for (int what = 0; what <= 6; what++) {
            add(x.count(what));
        }
        int parts = x.count(0);
        for (int p = 0; p < parts; p++) {
            for (int what = 0; what < PART_NUMBERS; what++) {
                add(x.of(p, what));
            }
        }
        int beasts = x.count(2);
        for (int b = 0; b < beasts; b++) {
            add(x.cap(b));
        }
        int camps = x.count(3);
        for (int c = 0; c < camps; c++) {
            for (int what = 0; what < CAMP_NUMBERS; what++) {
                add(x.campOf(c, what));
            }
        }
        for (int what = 0; what < 5; what++) {
            add(x.sky(what, 1));
        }
        for (int what = 0; what < 3; what++) {
            add(x.herd(what, 1));
        }
    }

    /** What the tape tells is seen in what house() makes of it. */
    private void askTape(FeltHouse x) {
        add(x.count(4));
        add(x.house());
        add(x.count(0));
        add(x.count(2));
        add(x.count(3));
        add(x.draw(20));
    }

    /** A number past the sheet's end is asked for, too, so that its length is seen. */
    private void askSheets(FeltHouse x) {
        for (int s = 0; s < 4; s++) {
            for (int i = 0; i < 4; i++) {
                add(x.write(s, i, 1L << 40 | 300));
                add(x.write(s, i, 0));
            }
        }
    }
}
