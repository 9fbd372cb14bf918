/** Boundary sentences of promises 19 to 22, and those of section 2 on beasts and loads. */
public final class BeastsEdgesTest {
    public static void main(String[] args) {
        beast();
        full();
        cap();
        carries();
        leastBeasts();
        fewest();
        setOfParts();
        size();
        evenest();
        leftSide();
        evenFindings();
        Edge.end();
    }

    private static FeltHouse laden(int... weights) {
        FeltHouse x = new FeltHouse();
        for (int weight : weights) {
            x.part(0, 0, 1, weight);
        }
        return x;
    }

    private static FeltHouse alike(int parts, int weight, int... caps) {
        FeltHouse x = new FeltHouse();
        for (int p = 0; p < parts; p++) {
            x.part(0, 0, 1, weight);
        }
        for (int cap : caps) {
            x.beast(cap);
        }
        return x;
    }

    private static int capOf(int cap) {
        FeltHouse x = new FeltHouse();
        int b = x.beast(cap);
        return b <= Check.BEYOND ? b : x.cap(b);
    }

    private static void beast() {
        Edge.says("Terms", "each carry WEIGHT up to a CAP (1 to 999)");
        Edge.range("cap", 1, 999, BeastsEdgesTest::capOf, cap -> cap);
        Edge.says("Promise 19", "A new BEAST: its number. BEYOND");
        FeltHouse x = new FeltHouse();
        Edge.past("cap 0", x.beast(0), Check.BEYOND);
        Edge.within("cap 1", x.beast(1), 0);
        Edge.past("cap 1000", x.beast(1000), Check.BEYOND);
        Edge.within("cap 999", x.beast(999), 1);
        Edge.within("how many came", x.count(2), 2);
    }

    private static void full() {
        Edge.says("Terms", "BEASTS 0, 1, .. (at most 6)");
        FeltHouse x = new FeltHouse();
        for (int b = 0; b < 6; b++) {
            Edge.within("beast " + b, x.beast(b + 1), b);
        }
        Edge.past("a 7th", x.beast(1), Check.FULL);
        Edge.past("how many", x.count(2), 6);
        Edge.says("Promise 19", "FULL");
        x = new FeltHouse();
        for (int b = 0; b < 5; b++) {
            x.beast(1);
        }
        x.image();
        Edge.within("the 6th", x.beast(7), 5);
        Edge.past("the 7th", x.beast(7), Check.FULL);
        x.undo();
        Edge.within("a 6th where it was undone", x.beast(8), 5);
        Edge.within("its cap", x.cap(5), 8);
    }

    private static void cap() {
        Edge.says("Promise 20", "CAP of a BEAST. BEYOND");
        FeltHouse x = new FeltHouse();
        Edge.past("cap(0) of none", x.cap(0), Check.BEYOND);
        x.beast(30);
        Edge.range("of one", 0, 0, x::cap, b -> 30);
        for (int b = 1; b < 6; b++) {
            x.beast(30 + b);
        }
        Edge.range("of six", 0, 5, x::cap, b -> 30 + b);
    }

    private static void carries() {
        Edge.says("Terms", "so that none carries more than its CAP");
        Edge.within("99 on 99", alike(1, 99, 99).beasts(1), 1);
        Edge.past("99 on 98", alike(1, 99, 98).beasts(1), Check.NONE);
        Edge.within("990 on 990", alike(10, 99, 990).beasts(0x3ff), 1);
        Edge.past("990 on 989", alike(10, 99, 989).beasts(0x3ff), Check.NONE);
        Edge.within("990 on 989 and 99", alike(10, 99, 989, 99).beasts(0x3ff), 2);
        Edge.past("990 on 989 and 98", alike(10, 99, 989, 98).beasts(0x3ff), Check.NONE);
        Edge.within("990 on five twos", alike(10, 99, 198, 198, 198, 198, 198).beasts(0x3ff), 5);
        Edge.past("one of them is 1 too weak", alike(10, 99, 198, 198, 197, 198, 198).beasts(0x3ff), Check.NONE);
        Edge.within("and a sixth", alike(10, 99, 198, 198, 197, 198, 198, 99).beasts(0x3ff), 6);
    }

    private static void leastBeasts() {
        Edge.says("Terms", "the least n with which they can be parted among BEASTS 0 to n less 1");
        for (int parts = 1; parts <= 6; parts++) {
            FeltHouse x = alike(10, 1, 1, 1, 1, 1, 1, 1);
            Edge.within(parts + " of weight 1 on ones", x.beasts((1 << parts) - 1), parts);
        }
        Edge.past("7 of weight 1 on six ones", alike(10, 1, 1, 1, 1, 1, 1, 1).beasts(0x7f), Check.NONE);
        Edge.past("10 of weight 1 on six ones", alike(10, 1, 1, 1, 1, 1, 1, 1).beasts(0x3ff), Check.NONE);
        Edge.within("10 of weight 1 on five and five", alike(10, 1, 5, 5).beasts(0x3ff), 2);
        Edge.within("nothing with no beast", new FeltHouse().beasts(0), 0);
        Edge.within("nothing with six", alike(1, 1, 9, 9, 9, 9, 9, 9).beasts(0), 0);
        Edge.past("a weightless part with no beast", alike(1, 0).beasts(1), Check.NONE);
        Edge.within("a weightless part with one", alike(1, 0, 1).beasts(1), 1);
        Edge.within("the last beast alone is strong enough", alike(1, 99, 1, 1, 1, 1, 1, 99).beasts(1), 6);
        Edge.past("and is 1 too weak", alike(1, 99, 1, 1, 1, 1, 1, 98).beasts(1), Check.NONE);
        Edge.within("the first is", alike(1, 99, 99, 1, 1, 1, 1, 1).beasts(1), 1);
    }

    private static void fewest() {
        Edge.says("Promise 21", "NONE: all of them are too few");
        FeltHouse x = laden(8, 7, 6, 5, 4);
        x.beast(15);
        Edge.within("30 on 15", x.beasts(0x1f), Check.NONE);
        x.beast(14);
        Edge.within("30 on 15 and 14", x.beasts(0x1f), Check.NONE);
        x.beast(1);
        Edge.within("a third for 1", x.beasts(0x1f), Check.NONE);
        x.beast(4);
        Edge.past("a fourth for 4", x.beasts(0x1f), 4);
        Edge.past("15 of them on the first", x.beasts(0b00011), 1);
        Edge.past("8 7, 6 5", x.beasts(0b01111), 2);
        FeltHouse y = laden(8, 7, 6, 5, 4);
        y.beast(15);
        y.beast(15);
        Edge.past("8 7, 6 5 4", y.beasts(0x1f), 2);
        Edge.past("no beast is asked for nothing", new FeltHouse().beasts(0), 0);
        Edge.within("no beasts", laden(1).beasts(1), Check.NONE);
    }

    private static void setOfParts() {
        Edge.says("Promise 21", "BEYOND: the set (one that isn't there, too)");
        FeltHouse x = alike(20, 1, 999);
        for (int p = 0; p < 20; p++) {
            Edge.within("part " + p, x.beasts(1 << p), 1);
        }
        for (int bit = 20; bit < 32; bit++) {
            Edge.past("bit " + bit, x.beasts(1 << bit), Check.BEYOND);
            Edge.past("bit " + bit + " and part 0", x.beasts(1 << bit | 1), Check.BEYOND);
        }
        Edge.past("all bits", x.beasts(-1), Check.BEYOND);
        x.want(19, false);
        Edge.past("a wanting one", x.beasts(1 << 19), Check.BEYOND);
        Edge.past("a wanting one among others", x.beasts(0x80003), Check.BEYOND);
        Edge.within("the others", x.beasts(0x40003), 1);
        x.want(19, true);
        Edge.within("it is there again", x.beasts(1 << 19), 1);
        FeltHouse y = alike(3, 1, 9);
        Edge.within("the last of three", y.beasts(4), 1);
        Edge.past("a fourth of three", y.beasts(8), Check.BEYOND);
    }

    private static void size() {
        Edge.says("Terms", "A LOAD is a set of PARTS that are there (10 at most)");
        FeltHouse x = alike(20, 1, 999);
        Edge.within("the first ten", x.beasts(0x3ff), 1);
        Edge.past("the first eleven", x.beasts(0x7ff), Check.SIZE);
        Edge.within("the last ten", x.beasts(0xffc00), 1);
        Edge.past("the last eleven", x.beasts(0xffe00), Check.SIZE);
        Edge.within("every second", x.even(0xaaaaa, 0), 0);
        Edge.past("every second and one more", x.even(0xaaaab, 0), Check.SIZE);
        Edge.says("Promise 21", "SIZE: more than 10");
        Edge.within("ten", x.beasts(0x3ff), 1);
        Edge.past("eleven", x.beasts(0x3ff | 1 << 19), Check.SIZE);
        Edge.past("twenty", x.beasts(0xfffff), Check.SIZE);
    }

    private static void evenest() {
        Edge.says("Terms", "EVENEST: the least difference of WEIGHT of all ways to lay them on two sides of one");
        Edge.within("nothing", new FeltHouse().even(0, 0), 0);
        Edge.within("one of 0", laden(0).even(1, 0), 0);
        Edge.past("one of 1", laden(1).even(1, 0), 1);
        Edge.past("one of 99", laden(99).even(1, 0), 99);
        Edge.within("99 and 99", laden(99, 99).even(3, 0), 0);
        Edge.past("99 and 98", laden(99, 98).even(3, 0), 1);
        Edge.past("99 and 0", laden(99, 0).even(3, 0), 99);
        Edge.within("ten of 99", alike(10, 99).even(0x3ff, 0), 0);
        Edge.past("nine of 99", alike(9, 99).even(0x1ff, 0), 99);
        Edge.within("one of nine others", laden(9, 1, 1, 1, 1, 1, 1, 1, 1, 1).even(0x3ff, 0), 0);
        Edge.past("one of more than nine others", laden(11, 1, 1, 1, 1, 1, 1, 1, 1, 1).even(0x3ff, 0), 2);
        Edge.says("Terms", "(CAP not asked)");
        FeltHouse x = laden(99, 99);
        Edge.within("no beast", x.even(3, 0), 0);
        x.beast(1);
        Edge.within("a weak beast", x.even(3, 0), 0);
        Edge.past("it carries none of it", x.beasts(3), Check.NONE);
    }

    private static void leftSide() {
        Edge.says("Promise 22", "1 those on the left side (the side that isn't heavier; of several such ways the least set)");
        Edge.within("nothing", new FeltHouse().even(0, 1), 0);
        Edge.within("one of 0: neither side is heavier", laden(0).even(1, 1), 0);
        Edge.past("one of 1: the right is heavier", laden(1).even(1, 1), 0);
        Edge.within("5 and 6", laden(5, 6).even(3, 1), 1);
        Edge.past("6 and 5", laden(6, 5).even(3, 1), 2);
        Edge.within("5 and 5: the least set", laden(5, 5).even(3, 1), 1);
        Edge.within("5, 5 and 5", laden(5, 5, 5).even(7, 1), 1);
        Edge.past("5, 5 and 4: a 5 alone", laden(5, 5, 4).even(7, 1), 1);
        Edge.within("10, 5 and 5: alike, the least set", laden(10, 5, 5).even(7, 1), 1);
        Edge.past("11, 5 and 5: the two are lighter", laden(11, 5, 5).even(7, 1), 6);
        Edge.within("ten alike: the first five", alike(10, 99).even(0x3ff, 1), 0x1f);
        Edge.within("the last ten of twenty: the first five of them", alike(20, 99).even(0xffc00, 1), 0x7c00);
        Edge.within("0, 0 and 7: the least set is empty", laden(0, 0, 7).even(7, 1), 0);
    }

    private static void evenFindings() {
        Edge.says("Promise 22", "EVENEST of a set: what 0 that");
        FeltHouse x = laden(7, 3);
        Edge.range("what", 0, 1, what -> x.even(3, what), what -> what == 0 ? 4 : 2);

        Edge.says("Promise 22", "BEYOND. SIZE");
        FeltHouse y = alike(20, 1);
        for (int what = 0; what <= 1; what++) {
            Edge.within("part 19, what " + what, y.even(1 << 19, what), what == 0 ? 1 : 0);
            Edge.past("bit 20, what " + what, y.even(1 << 20, what), Check.BEYOND);
            Edge.past("bit 31, what " + what, y.even(1 << 31, what), Check.BEYOND);
            Edge.within("ten, what " + what, y.even(0x3ff, what), what == 0 ? 0 : 0x1f);
            Edge.past("eleven, what " + what, y.even(0x7ff, what), Check.SIZE);
        }
        y.want(19, false);
        Edge.past("a wanting one", y.even(1 << 19, 0), Check.BEYOND);
    }
}
