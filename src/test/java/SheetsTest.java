/** Promises 32 to 37: sheets, and what they lay, cost and read. */
public final class SheetsTest {
    public static void main(String[] args) {
        sheet();
        write();
        copy();
        lays();
        costs();
        read();
        Check.end();
    }

    private static void row(FeltHouse x, int s, int bits, long... numbers) {
        x.sheet(s, bits, numbers.length);
        for (int i = 0; i < numbers.length; i++) {
            x.write(s, i, numbers[i]);
        }
    }

    private static void sheet() {
        FeltHouse x = new FeltHouse();
        Check.due("sheet -1", x.sheet(-1, 8, 1), Check.BEYOND);
        Check.due("sheet 4", x.sheet(4, 8, 1), Check.BEYOND);
        for (int bits : new int[] {-1, 1, 7, 9, 32, 65, Check.LEAST, Check.MOST}) {
            Check.due(bits + " bits", x.sheet(0, bits, 1), Check.BEYOND);
        }
        Check.due("a wrong sheet ahead of n", x.sheet(4, 8, -1), Check.BEYOND);
        Check.due("wrong bits ahead of n", x.sheet(0, 32, -1), Check.BEYOND);
        Check.due("n -1", x.sheet(0, 8, -1), Check.SIZE);
        Check.due("n 41", x.sheet(0, 8, 41), Check.BEYOND);
        Check.due("n -1 with bits 0", x.sheet(0, 0, -1), Check.SIZE);
        Check.due("n 41 with bits 0", x.sheet(0, 0, 41), Check.BEYOND);
        Check.due("n least", x.sheet(0, 8, Check.LEAST), Check.SIZE);
        Check.due("n most", x.sheet(0, 8, Check.MOST), Check.BEYOND);
        Check.due("still missing", x.write(0, 0, 1), Check.MISSING);
        Check.due("n 40", x.sheet(0, 8, 40), 40);
        Check.due("n 0", x.sheet(1, 16, 0), 0);
        Check.due("an empty one isn't missing", x.write(1, 0, 1), Check.BEYOND);
        Check.due("n 3 of 64", x.sheet(3, 64, 3), 3);
        x.write(0, 39, 7);
        Check.due("40 again", x.sheet(0, 8, 40), 40);
        Check.due("all 0 again", x.write(0, 39, 1), 0);
        Check.due("missing again", x.sheet(0, 0, 40), 0);
        Check.due("it is", x.write(0, 39, 1), Check.MISSING);
        Check.due("a finding changes nothing", x.sheet(3, 8, 41), Check.BEYOND);
        Check.due("3 is as it was", x.write(3, 2, 1), 0);
    }

    private static void write() {
        FeltHouse x = new FeltHouse();
        Check.due("sheet -1", x.write(-1, 0, 0), Check.BEYOND);
        Check.due("sheet 4", x.write(4, 0, 0), Check.BEYOND);
        Check.due("missing", x.write(0, -1, 0), Check.MISSING);
        x.sheet(0, 8, 2);
        x.sheet(1, 16, 2);
        x.sheet(2, 64, 2);
        Check.due("number -1", x.write(0, -1, 0), Check.BEYOND);
        Check.due("number 2", x.write(0, 2, 0), Check.BEYOND);
        Check.due("number most", x.write(0, Check.MOST, 0), Check.BEYOND);
        long[] values = {0, 1, 127, 128, 255, 256, -1, -128, -129, 32767, 32768, 65535, 65536,
            Long.MAX_VALUE, Long.MIN_VALUE, 0x123456789abcdefL};
        long before = 0;
        for (long v : values) {
            Check.due("8 bits, ahead of " + v, x.write(0, 1, v), (byte) before);
            Check.due("16 bits, ahead of " + v, x.write(1, 1, v), (short) before);
            Check.due("64 bits, ahead of " + v, x.write(2, 1, v), before);
            before = v;
        }
        Check.due("the other number", x.write(2, 0, -1000000001L), 0);
        Check.due("a number that looks as a finding", x.write(2, 0, 0), -1000000001L);
        Check.due("isn't counted", x.status(-1), 6);
    }

    private static void copy() {
        FeltHouse x = new FeltHouse();
        row(x, 0, 16, 1, 2, 3, 4, 5);
        row(x, 1, 16, 0, 0, 0);
        row(x, 2, 8, 0, 0, 0);
        Check.due("sheet -1", x.copy(-1, 0, 1, 0, 1), Check.BEYOND);
        Check.due("sheet 4", x.copy(4, 0, 1, 0, 1), Check.BEYOND);
        Check.due("sheet 4 to", x.copy(0, 0, 4, 0, 1), Check.BEYOND);
        Check.due("a wrong sheet ahead of a missing one", x.copy(3, 0, 4, 0, 1), Check.BEYOND);
        Check.due("missing from", x.copy(3, 0, 1, 0, 1), Check.MISSING);
        Check.due("missing to", x.copy(0, -1, 3, 0, 1), Check.MISSING);
        Check.due("other bits", x.copy(0, 0, 2, 0, -1), Check.KIND);
        Check.due("from -1", x.copy(0, -1, 1, 0, 1), Check.BEYOND);
        Check.due("to -1", x.copy(0, 0, 1, -1, 1), Check.BEYOND);
        Check.due("n -1", x.copy(0, 0, 1, 0, -1), Check.BEYOND);
        Check.due("too many for the second", x.copy(0, 0, 1, 0, 4), Check.BEYOND);
        Check.due("too many for the first", x.copy(1, 1, 0, 0, 3), Check.BEYOND);
        Check.due("n most", x.copy(0, 1, 1, 1, Check.MOST), Check.BEYOND);
        Check.due("from most", x.copy(0, Check.MOST, 1, 0, 1), Check.BEYOND);
        Check.due("to most", x.copy(0, 0, 1, Check.MOST, 1), Check.BEYOND);
        Check.due("none behind the end", x.copy(0, 5, 1, 3, 0), 0);
        Check.due("none past the end", x.copy(0, 6, 1, 0, 0), Check.BEYOND);
        Check.due("all three", x.copy(0, 2, 1, 0, 3), 3);
        for (int i = 0; i < 3; i++) {
            Check.due("number " + i, x.write(1, i, 0), 3 + i);
        }
        Check.due("onto itself, upwards", x.copy(0, 0, 0, 1, 4), 4);
        long[] up = {1, 1, 2, 3, 4};
        for (int i = 0; i < 5; i++) {
            Check.due("upwards, number " + i, x.write(0, i, i), up[i]);
        }
        Check.due("onto itself, downwards", x.copy(0, 1, 0, 0, 4), 4);
        long[] down = {1, 2, 3, 4, 4};
        for (int i = 0; i < 5; i++) {
            Check.due("downwards, number " + i, x.write(0, i, i), down[i]);
        }
    }

    private static void lays() {
        FeltHouse x = new FeltHouse();
        Check.due("sheet 4", x.lays(4, 0), Check.BEYOND);
        Check.due("sheet -1", x.lays(-1, 0), Check.BEYOND);
        Check.due("missing ahead of no camp", x.lays(0, 0), Check.MISSING);
        row(x, 0, 64, 5, -1, 999, 1000, 1L << 32, 0, 6, 7, 8, 9, 10, 11, 12, 13);
        Check.due("no camp", x.lays(0, 0), Check.BEYOND);
        x.camp(1);
        x.camp(2);
        for (int month = 0; month < 12; month++) {
            x.grass(1, month, 77);
        }
        Check.due("sheet 4 with camps", x.lays(4, 0), Check.BEYOND);
        Check.due("sheet -1 with camps", x.lays(-1, 0), Check.BEYOND);
        Check.due("camp -1", x.lays(0, -1), Check.BEYOND);
        Check.due("camp 2", x.lays(0, 2), Check.BEYOND);
        Check.due("nine came", x.lays(0, 1), 9);
        int[] due = {5, 77, 999, 77, 77, 0, 6, 7, 8, 9, 10, 11, 2};
        for (int what = 0; what < 13; what++) {
            Check.due("campOf(1, " + what + ")", x.campOf(1, what), due[what]);
        }
        Check.due("the other camp", x.campOf(0, 0), 0);
        row(x, 1, 8, 127, 128);
        Check.due("of 8 bits 128 is below 0", x.lays(1, 0), 1);
        x.sheet(1, 8, 0);
        Check.due("an empty one", x.lays(1, 0), 0);
    }

    private static void costs() {
        FeltHouse x = new FeltHouse();
        Check.due("sheet 4", x.costs(4, 0), Check.BEYOND);
        Check.due("missing ahead of the month", x.costs(0, 12), Check.MISSING);
        x.sheet(0, 8, 0);
        Check.due("an empty row", x.costs(0, 0), 0);
        row(x, 0, 8, 0);
        Check.due("no camps", x.costs(0, 0), Check.KIND);
        Check.due("the month ahead of the camps", x.costs(0, 12), Check.BEYOND);
        Check.due("month -1", x.costs(0, -1), Check.BEYOND);
        x.camp(10);
        x.camp(3);
        for (int month = 0; month < 12; month++) {
            x.grass(0, month, 50);
            x.grass(1, month, month);
        }
        row(x, 0, 8, 0, 0, 0, 0);
        Check.due("four months on end", x.costs(0, 0), 50 + 75 + 200);
        row(x, 0, 8, 0, 0, 1, 0);
        Check.due("there and back", x.costs(0, 0), 50 + 75 + 19 + 98 + 19 + 50);
        Check.due("from month 9 on", x.costs(0, 9), 50 + 75 + 19 + 89 + 19 + 50);
        Check.due("from month 11 on", x.costs(0, 11), 50 + 75 + 19 + 99 + 19 + 50);
        row(x, 0, 8, 1, 2);
        Check.due("camp 2", x.costs(0, 0), Check.KIND);
        row(x, 0, 8, 1, -1);
        Check.due("camp -1", x.costs(0, 0), Check.KIND);
        row(x, 0, 64, 1L << 32);
        Check.due("a camp's number in its lowest bits alone", x.costs(0, 0), Check.KIND);
        x.sheet(0, 8, 40);
        Check.due("forty months", x.costs(0, 0), 50 + 75 + 3800);
    }

    private static void read() {
        FeltHouse x = new FeltHouse();
        Check.due("sheet 4", x.read(4), Check.BEYOND);
        Check.due("sheet -1", x.read(-1), Check.BEYOND);
        Check.due("missing", x.read(0), Check.MISSING);
        x.sheet(0, 16, 0);
        Check.due("an empty one", x.read(0), 0);
        x.part(3, 0, 1, 9);
        x.sky(0, 40);
        row(x, 0, 16, -11, -6, -10, -10, -40, -10, -10, -6);
        Check.due("eight that are right", x.read(0), 0);
        row(x, 0, 8, -11, -6, -10);
        Check.due("three that are right", x.read(0), 0);
        x.write(0, 2, 10);
        Check.due("the third isn't", x.read(0), 3);
        x.write(0, 0, 11);
        Check.due("the first isn't", x.read(0), 1);
        row(x, 0, 16, -11, -6, -10, -10, -40, -10, -10, -6, 0);
        Check.due("a ninth", x.read(0), 9);
        row(x, 0, 64, -11 + (1L << 32));
        Check.due("right in its lowest bits alone", x.read(0), 1);
    }
}
