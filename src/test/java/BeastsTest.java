/** Promises 19 to 22: beasts, their caps, loads to them, loads even by side. */
public final class BeastsTest {
    public static void main(String[] args) {
        beast();
        beasts();
        parting();
        even();
        Check.end();
    }

    private static FeltHouse laden(int... weights) {
        FeltHouse x = new FeltHouse();
        for (int weight : weights) {
            x.part(0, 0, 1, weight);
        }
        return x;
    }

    private static void beast() {
        FeltHouse x = new FeltHouse();
        Check.due("cap 0", x.beast(0), Check.BEYOND);
        Check.due("cap 1000", x.beast(1000), Check.BEYOND);
        Check.due("cap(0) without beasts", x.cap(0), Check.BEYOND);
        for (int b = 0; b < 6; b++) {
            Check.due("beast " + b, x.beast(b == 0 ? 1 : 999 - b), b);
        }
        Check.due("a 7th", x.beast(1), Check.FULL);
        Check.due("a wrong 7th is BEYOND first", x.beast(0), Check.BEYOND);
        Check.due("cap(0)", x.cap(0), 1);
        Check.due("cap(5)", x.cap(5), 994);
        Check.due("cap(6)", x.cap(6), Check.BEYOND);
        Check.due("cap(-1)", x.cap(-1), Check.BEYOND);
        Check.due("six beasts", x.count(2), 6);
    }

    private static void beasts() {
        FeltHouse x = laden(1, 0, 1, 1, 1, 1, 1, 1, 1, 1, 1, 1);
        Check.due("nothing on no beast", x.beasts(0), 0);
        Check.due("a weightless part on no beast", x.beasts(2), Check.NONE);
        x.beast(9);
        Check.due("a weightless part", x.beasts(2), 1);
        Check.due("ten of which one weighs nothing", x.beasts(0x3ff), 1);
        Check.due("eleven", x.beasts(0x7ff), Check.SIZE);
        Check.due("ten of weight 10", x.beasts(0x7fe & ~2 | 1), Check.NONE);
        x.beast(1);
        Check.due("ten of weight 10 on two", x.beasts(0x7fd), 2);
        Check.due("a part that isn't", x.beasts(1 << 12), Check.BEYOND);
        Check.due("parts that aren't, and more than ten", x.beasts(0x1fff), Check.BEYOND);
        Check.due("a set below 0", x.beasts(-1), Check.BEYOND);
        Check.due("the highest bit", x.beasts(Check.LEAST), Check.BEYOND);
        x.want(3, false);
        Check.due("a wanting part", x.beasts(8), Check.BEYOND);
        Check.due("without it", x.beasts(7), 1);
    }

    private static void parting() {
        FeltHouse x = laden(6, 5, 5, 4, 4, 3, 3);
        x.beast(10);
        x.beast(10);
        Check.due("30 on 20", x.beasts(0x7f), Check.NONE);
        x.beast(10);
        Check.due("6 4, 5 5, 4 3 3", x.beasts(0x7f), 3);
        Check.due("6 5 5 4", x.beasts(0xf), 2);
        x = laden(7, 7, 7);
        x.beast(13);
        x.beast(6);
        x.beast(14);
        Check.due("a beast that is too small is gone past", x.beasts(7), 3);
        Check.due("two", x.beasts(3), 3);
        Check.due("one", x.beasts(1), 1);
        x = laden(9, 1);
        x.beast(1);
        x.beast(9);
        Check.due("the light one on the first", x.beasts(3), 2);
        Check.due("the heavy one alone", x.beasts(1), 2);
        Check.due("the light one alone", x.beasts(2), 1);
    }

    private static void even() {
        FeltHouse x = laden(8, 7, 6, 5, 4, 1, 1, 1, 1, 1, 1);
        Check.due("8 7 against 6 5 4", x.even(0x1f, 0), 0);
        Check.due("the least set of the even ways", x.even(0x1f, 1), 0b00011);
        Check.due("one", x.even(1, 0), 8);
        Check.due("one: the left side is empty", x.even(1, 1), 0);
        Check.due("8 and 7", x.even(3, 0), 1);
        Check.due("8 and 7: the lighter one", x.even(3, 1), 2);
        Check.due("nothing", x.even(0, 0), 0);
        Check.due("nothing on the left", x.even(0, 1), 0);
        Check.due("equal ones: the least set", x.even(0b11100000, 1), 0b100000);
        Check.due("equal ones", x.even(0b11100000, 0), 1);
        Check.due("ten", x.even(0x7fe, 0), 0);
        Check.due("eleven", x.even(0x7ff, 0), Check.SIZE);
        Check.due("eleven and a wrong what", x.even(0x7ff, 2), Check.BEYOND);
        Check.due("what -1", x.even(0, -1), Check.BEYOND);
        Check.due("what 2", x.even(0, 2), Check.BEYOND);
        Check.due("a part that isn't", x.even(1 << 11, 0), Check.BEYOND);
        Check.due("a set below 0", x.even(-1, 0), Check.BEYOND);
        x.want(0, false);
        Check.due("a wanting part", x.even(1, 0), Check.BEYOND);
        x = laden(0, 0, 5);
        Check.due("weightless ones", x.even(7, 0), 5);
        Check.due("the least set", x.even(7, 1), 0);
    }
}
