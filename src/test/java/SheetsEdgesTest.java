/** Boundary sentences of promises 32 to 37, and of section 4. */
public final class SheetsEdgesTest {
    private static final int[] WIDTHS = {8, 16, 64};
    private static final long[] LEAST = {-128, -32768, Long.MIN_VALUE};
    private static final long[] MOST = {127, 32767, Long.MAX_VALUE};

    public static void main(String[] args) {
        missingAtFirst();
        sheetBeyond();
        sheetSize();
        allNought();
        becomesMissing();
        writeFindings();
        lowestBits();
        copySheets();
        copyKinds();
        copyRanges();
        copyAsTheyWere();
        laysFindings();
        laysNumbers();
        laysOfEachCamp();
        costsFindings();
        costsNumbers();
        readFindings();
        readNumbers();
        readAsTheSkyIs();
        Edge.end();
    }

    private static FeltHouse sheet(int bits, long... numbers) {
        FeltHouse x = new FeltHouse();
        row(x, 0, bits, numbers);
        return x;
    }

    private static void row(FeltHouse x, int s, int bits, long... numbers) {
        x.sheet(s, bits, numbers.length);
        for (int i = 0; i < numbers.length; i++) {
            x.write(s, i, numbers[i]);
        }
    }

    private static void missingAtFirst() {
        Edge.says("Terms", "SHEETS 0 to 3 are rows of at most 40 numbers of 8, 16 or 64 bits, or MISSING (at first)");
        for (int s = 0; s < 4; s++) {
            FeltHouse x = new FeltHouse();
            Edge.within("sheet " + s + " at first", x.write(s, 0, 0), Check.MISSING);
            x.sheet(s, 8, 1);
            Edge.past("sheet " + s + " then", x.write(s, 0, 0), 0);
            Edge.within("the next one", x.write((s + 1) % 4, 0, 0), Check.MISSING);
        }
        for (int bits : WIDTHS) {
            for (int n = 0; n <= 40; n++) {
                FeltHouse x = new FeltHouse();
                Edge.within(bits + " bits, n " + n, x.sheet(0, bits, n), n);
                Edge.within("its last number", n == 0 ? 0 : x.write(0, n - 1, 0), 0);
                Edge.past("one behind its last", x.write(0, n, 0), Check.BEYOND);
            }
            Edge.past(bits + " bits, n 41", new FeltHouse().sheet(0, bits, 41), Check.BEYOND);
        }
    }

    private static void sheetBeyond() {
        Edge.says("Promise 32", "BEYOND: no such sheet, other bits");
        Edge.range("sheet", 0, 3, s -> new FeltHouse().sheet(s, 8, 2), s -> 2);
        for (int bits = -2; bits <= 130; bits++) {
            int answer = new FeltHouse().sheet(0, bits, 2);
            if (bits == 8 || bits == 16 || bits == 64) {
                Edge.within(bits + " bits", answer, 2);
            } else if (bits == 0) {
                Edge.within("0 bits", answer, 0);
            } else {
                Edge.past(bits + " bits", answer, Check.BEYOND);
            }
        }
        Edge.past("least bits", new FeltHouse().sheet(0, Check.LEAST, 2), Check.BEYOND);
        Edge.past("most bits", new FeltHouse().sheet(0, Check.MOST, 2), Check.BEYOND);
        Edge.past("no such sheet, n -1", new FeltHouse().sheet(4, 8, -1), Check.BEYOND);
        Edge.past("other bits, n -1", new FeltHouse().sheet(0, 7, -1), Check.BEYOND);
    }

    private static void sheetSize() {
        for (int bits : new int[] {0, 8, 16, 64}) {
            Edge.says("Promise 32", "SIZE: n is below 0 (also with bits 0)");
            FeltHouse x = new FeltHouse();
            Edge.within("bits " + bits + ", n -1", x.sheet(0, bits, -1), Check.SIZE);
            Edge.within("bits " + bits + ", n least", x.sheet(0, bits, Check.LEAST), Check.SIZE);
            Edge.past("bits " + bits + ", n 0", x.sheet(0, bits, 0), 0);
            Edge.says("Promise 32", "BEYOND: n is above 40 (also with bits 0)");
            Edge.within("bits " + bits + ", n 41", x.sheet(0, bits, 41), Check.BEYOND);
            Edge.within("bits " + bits + ", n most", x.sheet(0, bits, Check.MOST), Check.BEYOND);
            Edge.past("bits " + bits + ", n 40", x.sheet(0, bits, 40), bits == 0 ? 0 : 40);
        }
    }

    private static void allNought() {
        Edge.says("Promise 32", "A sheet has n numbers, all 0, of 8, 16 or 64 bits");
        FeltHouse x = new FeltHouse();
        x.sheet(0, 64, 40);
        for (int i = 0; i < 40; i++) {
            Edge.within("number " + i + " at first", x.write(0, i, -1), 0);
        }
        Edge.past("written", x.write(0, 39, -1), -1);
        x.sheet(0, 8, 1);
        x.sheet(0, 16, 40);
        for (int i = 0; i < 40; i++) {
            Edge.within("number " + i + " anew", x.write(0, i, -1), 0);
        }
        Edge.past("a 41st", x.write(0, 40, -1), Check.BEYOND);
    }

    private static void becomesMissing() {
        Edge.says("Promise 32", "bits 0: it is MISSING: n (0 if it is MISSING)");
        FeltHouse x = new FeltHouse();
        Edge.past("bits 8, n 5", x.sheet(0, 8, 5), 5);
        Edge.past("it is there", x.write(0, 4, 1), 0);
        Edge.within("bits 0, n 5", x.sheet(0, 0, 5), 0);
        Edge.within("it is missing", x.write(0, 4, 1), Check.MISSING);
        Edge.past("bits 8, n 0", x.sheet(0, 8, 0), 0);
        Edge.past("an empty one isn't missing", x.write(0, 0, 1), Check.BEYOND);
        Edge.past("anew it is all 0", x.sheet(0, 8, 5), 5);
        Edge.past("number 4", x.write(0, 4, 1), 0);
    }

    private static void writeFindings() {
        Edge.says("Promise 33", "BEYOND: no such sheet");
        FeltHouse x = new FeltHouse();
        for (int s = 0; s < 4; s++) {
            row(x, s, 8, 50 + s);
        }
        Edge.range("sheet", 0, 3, s -> x.write(s, 0, 50 + s), s -> 50 + s);
        Edge.says("Promise 33", "MISSING");
        x.sheet(3, 0, 0);
        Edge.within("a missing one", x.write(3, 0, 0), Check.MISSING);
        Edge.within("a missing one, no such number", x.write(3, -1, 0), Check.MISSING);
        Edge.past("one that is there", x.write(2, 0, 0), 52);
        Edge.past("an empty one", withSheet(8, 0).write(0, 0, 0), Check.BEYOND);
        Edge.says("Promise 33", "BEYOND: no such number");
        for (int bits : WIDTHS) {
            FeltHouse forty = withSheet(bits, 40);
            Edge.range("number of 40", 0, 39, i -> forty.write(0, i, 0), i -> 0);
            FeltHouse one = withSheet(bits, 1);
            Edge.range("number of 1", 0, 0, i -> one.write(0, i, 0), i -> 0);
        }
    }

    private static FeltHouse withSheet(int bits, int n) {
        FeltHouse x = new FeltHouse();
        x.sheet(0, bits, n);
        return x;
    }

    private static void lowestBits() {
        Edge.says("Promise 33", "Number i of a sheet becomes v (its lowest bits): what it was");
        for (int w = 0; w < 3; w++) {
            FeltHouse x = withSheet(WIDTHS[w], 1);
            String name = WIDTHS[w] + " bits, ";
            x.write(0, 0, LEAST[w]);
            Edge.within(name + "the least", x.write(0, 0, MOST[w]), LEAST[w]);
            Edge.within(name + "the most", x.write(0, 0, MOST[w] + 1), MOST[w]);
            Edge.past(name + "one above wraps around", x.write(0, 0, LEAST[w] - 1), LEAST[w]);
            Edge.past(name + "one below wraps around", x.write(0, 0, -1), MOST[w]);
            Edge.within(name + "-1", x.write(0, 0, 0), -1);
        }
        FeltHouse x = sheet(8, 255);
        Edge.past("8 bits, 255", x.write(0, 0, 256), -1);
        Edge.past("8 bits, 256", x.write(0, 0, 0), 0);
        x = sheet(16, 65535);
        Edge.past("16 bits, 65535", x.write(0, 0, 65536), -1);
        Edge.past("16 bits, 65536", x.write(0, 0, 0), 0);
        x = sheet(64, 1L << 32);
        Edge.within("64 bits, 2 to the 32", x.write(0, 0, 1L << 63), 1L << 32);
        Edge.within("64 bits, 2 to the 63", x.write(0, 0, Check.MISSING), Long.MIN_VALUE);
        Edge.within("64 bits, a finding's number", x.write(0, 0, 0), Check.MISSING);
        Edge.within("which is no finding", x.status(-1), 0);
    }

    private static void copySheets() {
        Edge.says("Promise 34", "BEYOND: no such sheet (either)");
        FeltHouse x = new FeltHouse();
        for (int s = 0; s < 4; s++) {
            x.sheet(s, 8, 1);
        }
        Edge.range("from", 0, 3, s -> x.copy(s, 0, 0, 0, 1), s -> 1);
        Edge.range("to", 0, 3, t -> x.copy(0, 0, t, 0, 1), t -> 1);
        Edge.says("Promise 34", "MISSING: one is");
        Edge.past("none is", x.copy(2, 0, 3, 0, 1), 1);
        x.sheet(3, 0, 0);
        Edge.within("the second", x.copy(2, 0, 3, 0, 1), Check.MISSING);
        Edge.within("the first", x.copy(3, 0, 2, 0, 1), Check.MISSING);
        Edge.within("both", x.copy(3, 0, 3, 0, 1), Check.MISSING);
        x.sheet(2, 8, 0);
        Edge.past("an empty one isn't", x.copy(2, 0, 1, 0, 0), 0);
    }

    private static void copyKinds() {
        Edge.says("Promise 34", "KIND: they are not of as many bits");
        for (int bits : WIDTHS) {
            for (int other : WIDTHS) {
                FeltHouse x = new FeltHouse();
                x.sheet(0, bits, 1);
                x.sheet(1, other, 1);
                if (bits == other) {
                    Edge.past(bits + " to " + other, x.copy(0, 0, 1, 0, 1), 1);
                } else {
                    Edge.within(bits + " to " + other, x.copy(0, 0, 1, 0, 1), Check.KIND);
                    Edge.within(bits + " to " + other + ", none", x.copy(0, 0, 1, 0, 0), Check.KIND);
                }
            }
        }
    }

    private static void copyRanges() {
        Edge.says("Promise 34", "BEYOND: one has not so many, or from, to or n is below 0");
        FeltHouse x = new FeltHouse();
        x.sheet(0, 8, 5);
        x.sheet(1, 8, 3);
        Edge.range("from", 0, 2, from -> x.copy(0, from, 1, 0, 3), from -> 3);
        Edge.range("to", 0, 2, to -> x.copy(1, 0, 0, to, 3), to -> 3);
        Edge.range("n, the second has 3", 0, 3, n -> x.copy(0, 0, 1, 0, n), n -> n);
        Edge.range("n, the first has 3", 0, 3, n -> x.copy(1, 0, 0, 0, n), n -> n);
        Edge.range("n from the 4th on", 0, 2, n -> x.copy(0, 3, 1, 0, n), n -> n);
        Edge.range("n to the 2nd on", 0, 2, n -> x.copy(0, 0, 1, 1, n), n -> n);
        Edge.range("from, none", 0, 5, from -> x.copy(0, from, 1, 0, 0), from -> 0);
        Edge.range("to, none", 0, 3, to -> x.copy(0, 0, 1, to, 0), to -> 0);
        Edge.past("from and n wrap around", x.copy(0, Check.MOST, 1, 0, Check.MOST), Check.BEYOND);
        Edge.past("to and n wrap around", x.copy(0, 0, 1, 1, Check.MOST), Check.BEYOND);
        FeltHouse forty = new FeltHouse();
        forty.sheet(0, 64, 40);
        forty.sheet(1, 64, 40);
        Edge.within("all of 40", forty.copy(0, 0, 1, 0, 40), 40);
        Edge.past("41 of 40", forty.copy(0, 0, 1, 0, 41), Check.BEYOND);
        Edge.past("40 from the second on", forty.copy(0, 1, 1, 0, 40), Check.BEYOND);
    }

    private static void copyAsTheyWere() {
        Edge.says("Promise 34", "n numbers of a sheet from one on come to another one from one on (as they all were): n");
        FeltHouse x = sheet(8, 1, 2, 3, 4, 5);
        Edge.within("up by one, onto itself", x.copy(0, 0, 0, 1, 4), 4);
        long[] up = {1, 1, 2, 3, 4};
        for (int i = 0; i < 5; i++) {
            Edge.within("up, number " + i, x.write(0, i, i + 1), up[i]);
        }
        Edge.within("down by one, onto itself", x.copy(0, 1, 0, 0, 4), 4);
        long[] down = {2, 3, 4, 5, 5};
        for (int i = 0; i < 5; i++) {
            Edge.within("down, number " + i, x.write(0, i, i + 1), down[i]);
        }
        row(x, 1, 8, 60, 61, 62, 63);
        x.copy(0, 3, 1, 1, 2);
        long[] due = {60, 4, 5, 63};
        for (int i = 0; i < 4; i++) {
            if (i == 1 || i == 2) {
                Edge.within("number " + i + " came", x.write(1, i, 0), due[i]);
            } else {
                Edge.past("number " + i + " is beside them", x.write(1, i, 0), due[i]);
            }
        }
        for (int i = 0; i < 5; i++) {
            Edge.past("number " + i + " is where it was, too", x.write(0, i, 0), i + 1);
        }
    }

    private static void laysFindings() {
        Edge.says("Promise 35", "BEYOND: no such sheet");
        FeltHouse x = new FeltHouse();
        x.camp(0);
        for (int s = 0; s < 4; s++) {
            x.sheet(s, 8, s);
        }
        Edge.range("sheet", 0, 3, s -> x.lays(s, 0), s -> s);
        Edge.says("Promise 35", "MISSING");
        FeltHouse y = new FeltHouse();
        Edge.within("missing, no camp", y.lays(0, 0), Check.MISSING);
        y.camp(0);
        Edge.within("missing", y.lays(0, 0), Check.MISSING);
        y.sheet(0, 16, 0);
        Edge.past("an empty one", y.lays(0, 0), 0);
        Edge.says("Promise 35", "BEYOND: no such CAMP");
        FeltHouse z = sheet(8, 7);
        Edge.past("camp 0 of none", z.lays(0, 0), Check.BEYOND);
        z.camp(0);
        z.camp(0);
        Edge.range("camp", 0, 1, c -> z.lays(0, c), c -> 1);
    }

    private static void laysNumbers() {
        Edge.says("Promise 35", "(those that aren't 0 to 999, or stand for no MONTH, are left out): how many came");
        FeltHouse x = new FeltHouse();
        x.camp(0);
        x.grass(0, 0, 77);
        long[] wrong = {-1, 1000, 1L << 32, (1L << 32) + 5, Long.MIN_VALUE, Long.MAX_VALUE};
        for (long v : wrong) {
            row(x, 0, 64, v);
            Edge.past(v + " doesn't come", x.lays(0, 0), 0);
            Edge.past("grass behind " + v, x.campOf(0, 0), 77);
        }
        for (int v : new int[] {0, 999}) {
            row(x, 0, 64, v);
            Edge.within(v + " comes", x.lays(0, 0), 1);
            Edge.within("grass of " + v, x.campOf(0, 0), v);
        }
        row(x, 0, 8, 127);
        Edge.within("127 of 8 bits", x.lays(0, 0), 1);
        row(x, 0, 8, 128);
        Edge.past("128 of 8 bits is below 0", x.lays(0, 0), 0);
        for (int n = 11; n <= 13; n++) {
            x.sheet(0, 16, n);
            for (int i = 0; i < n; i++) {
                x.write(0, i, 10 * n + i);
            }
            if (n <= 12) {
                Edge.within(n + " numbers", x.lays(0, 0), n);
            } else {
                Edge.past(n + " numbers", x.lays(0, 0), 12);
            }
            Edge.within("grass in month 11", x.campOf(0, 11), n == 11 ? 0 : 10 * n + 11);
            Edge.within("grass in month 0", x.campOf(0, 0), 10 * n);
        }
        x.sheet(0, 16, 40);
        Edge.past("40 numbers", x.lays(0, 0), 12);
        Edge.within("far is as it was", x.campOf(0, 12), 0);
    }

    private static void laysOfEachCamp() {
        Edge.says("Promise 35", "Numbers of a sheet are GRASS of a CAMP in MONTHS 0, 1, ..");
        for (int camp = 0; camp < 6; camp++) {
            FeltHouse x = new FeltHouse();
            for (int c = 0; c < 6; c++) {
                x.camp(c);
            }
            x.sheet(0, 16, 12);
            for (int i = 0; i < 12; i++) {
                x.write(0, i, 100 + i);
            }
            Edge.within("camp " + camp, x.lays(0, camp), 12);
            for (int month = 0; month < 12; month++) {
                Edge.within("camp " + camp + ", month " + month, x.campOf(camp, month), 100 + month);
                Edge.past("the next camp, month " + month, x.campOf((camp + 1) % 6, month), 0);
                Edge.past("the camp ahead, month " + month, x.campOf((camp + 5) % 6, month), 0);
            }
        }
    }

    private static void costsFindings() {
        Edge.says("Promise 36", "BEYOND: no such sheet");
        FeltHouse x = new FeltHouse();
        x.camp(0);
        for (int s = 0; s < 4; s++) {
            x.sheet(s, 8, s);
        }
        Edge.range("sheet", 0, 3, s -> x.costs(s, 0), s -> 100 * s);
        Edge.says("Promise 36", "MISSING");
        FeltHouse y = new FeltHouse();
        Edge.within("missing", y.costs(0, 0), Check.MISSING);
        Edge.within("missing, no such month", y.costs(0, 12), Check.MISSING);
        y.sheet(0, 16, 0);
        Edge.past("an empty one", y.costs(0, 0), 0);
        Edge.says("Promise 36", "BEYOND: no such MONTH");
        Edge.range("month of an empty one", 0, 11, month -> y.costs(0, month), month -> 0);
        FeltHouse z = sheet(8, 0);
        z.camp(0);
        for (int month = 0; month < 12; month++) {
            z.grass(0, month, 2 * month);
        }
        Edge.range("month", 0, 11, month -> z.costs(0, month), month -> 100 - 2 * month);
        Edge.range("month of one that is no camp", 0, 11, month -> sheet(8, 0).costs(0, month), month -> Check.KIND);
    }

    private static void costsNumbers() {
        Edge.says("Promise 36", "KIND: a number is no CAMP");
        FeltHouse none = sheet(8, 0);
        Edge.within("camp 0 of none", none.costs(0, 0), Check.KIND);
        none.camp(0);
        Edge.past("camp 0 of one", none.costs(0, 0), 100);
        FeltHouse x = new FeltHouse();
        for (int c = 0; c < 6; c++) {
            x.camp(0);
        }
        for (int c = 0; c < 6; c++) {
            row(x, 0, 64, c);
            Edge.past("camp " + c + " of six", x.costs(0, 0), 100);
        }
        long[] wrong = {-1, 6, 1L << 32, (1L << 32) + 1, Long.MIN_VALUE, Long.MAX_VALUE};
        for (long v : wrong) {
            row(x, 0, 64, v);
            Edge.within(v + " alone", x.costs(0, 0), Check.KIND);
            row(x, 0, 64, 0, 0, v);
            Edge.within(v + " as the last", x.costs(0, 0), Check.KIND);
        }
        Edge.says("Promise 36", "The cost of a row of CAMPS that a sheet tells, from a MONTH on, one for each");
        FeltHouse y = new FeltHouse();
        y.camp(0);
        y.sheet(0, 8, 40);
        Edge.within("40 months", y.costs(0, 11), 4000);
        y.sheet(0, 8, 1);
        Edge.within("one month", y.costs(0, 11), 100);
        y.sheet(0, 8, 0);
        Edge.past("none", y.costs(0, 11), 0);
        // 25 months are no YEAR, but a row; the 25th is month 0 for the third time.
        y.sheet(0, 8, 25);
        y.camp(0);
        y.grass(1, 0, 100);
        y.write(0, 24, 1);
        Edge.within("the 25th month", y.costs(0, 0), 2400 + 5);
    }

    private static void readFindings() {
        Edge.says("Promise 37", "BEYOND: no such sheet");
        FeltHouse x = new FeltHouse();
        for (int s = 0; s < 4; s++) {
            row(x, s, 8, s);
        }
        Edge.range("sheet", 0, 3, x::read, s -> s == 0 ? 0 : 1);
        Edge.says("Promise 37", "MISSING");
        x.sheet(3, 0, 0);
        Edge.within("missing", x.read(3), Check.MISSING);
        x.sheet(3, 8, 0);
        Edge.past("an empty one", x.read(3), 0);
    }

    private static void readNumbers() {
        Edge.says("Promise 37", "0 if all (as many as there are) are right, else 1 and the place of the first that isn't, or stands for no SIDE");
        FeltHouse x = new FeltHouse();
        for (int side = 0; side < 8; side++) {
            x.part(1, side, 10 + side, 0);
        }
        for (int bits : WIDTHS) {
            for (int n = 0; n <= 8; n++) {
                x.sheet(0, bits, n);
                for (int i = 0; i < n; i++) {
                    x.write(0, i, -10 - i);
                }
                Edge.within(n + " right ones", x.read(0), 0);
            }
            for (int i = 7; i >= 0; i--) {
                x.write(0, i, i % 2 == 0 ? -9 - i : -11 - i);
                Edge.past("the first wrong one is " + i, x.read(0), 1 + i);
            }
        }
        row(x, 0, 8, -10, -11, -12, -13, -14, -15, -16, -17, -10);
        Edge.past("a ninth", x.read(0), 9);
        row(x, 0, 8, -10, -11, -12, -13, -14, -15, -16, -17, 0);
        Edge.past("a ninth of 0", x.read(0), 9);
        x.write(0, 7, 0);
        Edge.past("a wrong one ahead of it", x.read(0), 8);
        row(x, 0, 64, -10 + (1L << 32));
        Edge.past("right in its lowest bits alone", x.read(0), 1);
        Edge.past("a row of 40 noughts", zeros(40).read(0), 9);
        Edge.within("a row of 8 noughts", zeros(8).read(0), 0);
    }

    private static void readAsTheSkyIs() {
        Edge.says("Promise 37", "numbers of a sheet are SPARES of SIDES 0, 1, ..");
        FeltHouse x = new FeltHouse();
        x.sky(0, 99);
        x.sky(1, 7);
        // Across from 7 is 3.
        row(x, 0, 8, -24, -24, -24, -99, -24, -24, -24, -49);
        Edge.within("wind from 7", x.read(0), 0);
        x.sky(1, 0);
        Edge.past("wind from 0", x.read(0), 1);
        // A spare of -129 and below has no room in 8 bits, and is never right there.
        x.part(1, 4, 29, 0);
        row(x, 0, 8, -49, -24, -24, -24, -128);
        Edge.within("a spare of -128", x.read(0), 0);
        x.set(0, 2, 30);
        x.write(0, 4, -129);
        Edge.past("a spare of -129 in 8 bits", x.read(0), 5);
        row(x, 0, 16, -49, -24, -24, -24, -129);
        Edge.within("a spare of -129 in 16 bits", x.read(0), 0);
    }

    private static FeltHouse zeros(int n) {
        return withSheet(16, n);
    }
}
