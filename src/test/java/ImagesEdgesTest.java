/** Boundary sentences of promises 38 to 42. */
public final class ImagesEdgesTest {
    public static void main(String[] args) {
        allIsKept();
        fullIsKept();
        tapeAndSheetsAreNot();
        latest();
        undoAnswers();
        nothingKept();
        tear();
        counts();
        countWhat();
        statusCounts();
        statusWhich();
        undoTakesNoneBack();
        Edge.end();
    }

    /** Each number of sections 1 and 2, by a call that answers what it was and leaves it as told. */
    private static long[] swap(FeltHouse x, int by) {
        long[] was = new long[16 + 12];
        int i = 0;
        for (int what = 2; what <= 4; what++) {
            was[i++] = x.set(0, what, 30 + by);
        }
        was[i++] = x.of(0, 5);
        x.want(0, by == 0);
        for (int what = 0; what < 5; what++) {
            was[i++] = x.sky(what, 3 + by);
        }
        was[i++] = x.draw(40 + by);
        for (int what = 0; what < 3; what++) {
            was[i++] = x.herd(what, 50 + by);
        }
        was[i++] = x.count(0);
        was[i++] = x.count(2);
        was[i++] = x.count(3);
        for (int month = 0; month < 12; month++) {
            was[i++] = x.grass(0, month, 100 + month + by);
        }
        return was;
    }

    private static void allIsKept() {
        Edge.says("Promise 38", "All that sections 1 and 2 tell (THE TAPE not) is kept: 1");
        FeltHouse x = new FeltHouse();
        x.part(2, 6, 7, 8);
        x.beast(9);
        x.camp(10);
        swap(x, 0);
        Edge.within("image()", x.image(), 1);
        long[] kept = swap(x, 1);
        x.part(0, 0, 1, 1);
        x.beast(1);
        x.camp(1);
        long[] changed = swap(x, 2);
        x.undo();
        long[] undone = swap(x, 3);
        for (int i = 0; i < kept.length; i++) {
            Edge.within("number " + i + " is as it was kept", undone[i], kept[i]);
            Edge.past("number " + i + " had been changed", changed[i] == kept[i] ? 1 : 0, 0);
        }
        Edge.within("kind", x.of(0, 0), 2);
        Edge.within("side", x.of(0, 1), 6);
        Edge.within("cap", x.cap(0), 9);
        Edge.within("far", x.campOf(0, 12), 10);
        Edge.past("a part that came behind it", x.of(1, 0), Check.BEYOND);
        Edge.past("a beast that came behind it", x.cap(1), Check.BEYOND);
        Edge.past("a camp that came behind it", x.campOf(1, 12), Check.BEYOND);
    }

    private static void fullIsKept() {
        Edge.says("Promise 39", "It becomes what was kept latest");
        FeltHouse x = new FeltHouse();
        for (int p = 0; p < 20; p++) {
            x.part(p % 7, p % 8, 100 + p, 50 + p);
            x.set(p, 4, 20 + p);
        }
        for (int c = 0; c < 6; c++) {
            x.beast(200 + c);
            x.camp(60 + c);
            x.grass(c, 0, 300 + c);
            x.grass(c, 11, 400 + c);
        }
        x.image();
        x.tear();
        x.image();
        for (int p = 0; p < 20; p++) {
            x.set(p, 2, 1);
            x.set(p, 3, 1);
            x.set(p, 4, 1);
            x.want(p, false);
        }
        for (int c = 0; c < 6; c++) {
            x.grass(c, 0, 1);
            x.grass(c, 11, 1);
        }
        Edge.past("changed", x.of(19, 2), 1);
        Edge.past("none is there", x.count(1), 0);
        Edge.within("all 20 come back", x.undo(), 20);
        Edge.within("all are there", x.count(1), 20);
        for (int p = 0; p < 20; p++) {
            Edge.within("strength of " + p, x.of(p, 2), 100 + p);
            Edge.within("weight of " + p, x.of(p, 3), 50 + p);
            Edge.within("wear of " + p, x.of(p, 4), 20 + p);
        }
        for (int c = 0; c < 6; c++) {
            Edge.within("cap of " + c, x.cap(c), 200 + c);
            Edge.within("far of " + c, x.campOf(c, 12), 60 + c);
            Edge.within("first grass of " + c, x.campOf(c, 0), 300 + c);
            Edge.within("last grass of " + c, x.campOf(c, 11), 400 + c);
        }
        // A house that has less is put back to no part of it.
        FeltHouse y = new FeltHouse();
        y.image();
        y.part(0, 0, 1, 9);
        y.want(0, false);
        Edge.within("none come back", y.undo(), 0);
        y.part(0, 0, 1, 9);
        Edge.within("a new one in its place is there", y.of(0, 5), 1);
    }

    private static void tapeAndSheetsAreNot() {
        Edge.says("Promise 38", "(THE TAPE not)");
        FeltHouse x = new FeltHouse();
        Check.feed(x, "draw 5");
        x.sheet(0, 8, 1);
        x.write(0, 0, 6);
        x.image();
        x.draw(7);
        x.wipe();
        Check.feed(x, "draw 8,draw 9");
        x.write(0, 0, 10);
        x.sheet(1, 16, 2);
        Edge.past("undo()", x.undo(), 0);
        Edge.past("draw is kept", x.count(6), 20);
        Edge.within("the tape isn't", x.house(), 2);
        Edge.within("it was told", x.count(6), 9);
        Edge.within("a sheet isn't", x.write(0, 0, 0), 10);
        Edge.within("nor that one was missing", x.write(1, 1, 0), 0);
    }

    private static void latest() {
        Edge.says("Promise 39", "what was kept latest (which stays)");
        FeltHouse x = new FeltHouse();
        x.draw(1);
        x.image();
        x.draw(2);
        x.image();
        x.draw(3);
        x.undo();
        Edge.within("the latest", x.count(6), 2);
        x.draw(4);
        x.undo();
        Edge.within("it stays", x.count(6), 2);
        x.undo();
        Edge.within("a third time", x.count(6), 2);
        x.image();
        x.draw(5);
        x.undo();
        Edge.within("kept anew as it is", x.count(6), 2);
        x.tear();
        Edge.past("the one ahead of it isn't kept any more", x.undo(), Check.NONE);
    }

    private static void undoAnswers() {
        Edge.says("Promise 39", "how many PARTS");
        FeltHouse x = new FeltHouse();
        x.image();
        x.part(0, 0, 1, 0);
        Edge.within("none", x.undo(), 0);
        x.part(0, 0, 1, 0);
        x.want(0, false);
        x.image();
        x.part(0, 0, 1, 0);
        Edge.past("two", x.count(0), 2);
        Edge.within("one, though it is wanting", x.undo(), 1);
    }

    private static void nothingKept() {
        Edge.says("Promise 39", "NONE: nothing is kept");
        FeltHouse x = new FeltHouse();
        Edge.within("at first", x.undo(), Check.NONE);
        x.image();
        Edge.past("kept", x.undo(), 0);
        x.tear();
        Edge.within("torn", x.undo(), Check.NONE);
        x.image();
        Edge.past("kept again", x.undo(), 0);
    }

    private static void tear() {
        Edge.says("Promise 40", "Nothing is kept: 1 if something was, else 0");
        FeltHouse x = new FeltHouse();
        Edge.past("at first", x.tear(), 0);
        x.image();
        x.image();
        Edge.within("kept twice", x.tear(), 1);
        Edge.past("torn already", x.tear(), 0);
        x.image();
        x.undo();
        Edge.within("kept, and undone to", x.tear(), 1);
        Edge.past("nothing now", x.undo(), Check.NONE);
        FeltHouse y = new FeltHouse();
        y.draw(5);
        y.image();
        y.draw(6);
        y.tear();
        Edge.within("what is isn't changed", y.count(6), 6);
    }

    private static void counts() {
        Edge.says("Promise 41", "0 PARTS, 1 those that are there, 2 BEASTS, 3 CAMPS, 4 bytes of THE TAPE, 5 WEIGHT of all that are there, 6 DRAW");
        FeltHouse x = new FeltHouse();
        long[] none = {0, 0, 0, 0, 0, 0, 20};
        for (int what = 0; what < 7; what++) {
            Edge.within("of a new object, what " + what, x.count(what), none[what]);
        }
        for (int p = 0; p < 20; p++) {
            x.part(0, 0, 1, 99);
        }
        for (int i = 0; i < 6; i++) {
            x.beast(1);
            x.camp(0);
        }
        for (int i = 0; i < 30; i++) {
            x.feed(0, 4);
        }
        x.draw(99);
        long[] full = {20, 20, 6, 6, 120, 1980, 99};
        for (int what = 0; what < 7; what++) {
            Edge.within("full, what " + what, x.count(what), full[what]);
        }
        x.want(19, false);
        Edge.past("parts with a wanting one", x.count(0), 20);
        Edge.past("those that are there", x.count(1), 19);
        Edge.past("their weight", x.count(5), 1881);
        x.set(0, 3, 0);
        Edge.past("their weight with one of 0", x.count(5), 1782);
    }

    private static void countWhat() {
        Edge.says("Promise 41", "BEYOND: another what");
        FeltHouse x = new FeltHouse();
        Edge.range("what", 0, 6, x::count, what -> what == 6 ? 20 : 0);
    }

    private static void statusCounts() {
        Edge.says("Promise 42", "which -1: all, 0 to 6: BEYOND to SIZE");
        FeltHouse x = new FeltHouse();
        for (int which = -1; which <= 6; which++) {
            Edge.within("none, status(" + which + ")", x.status(which), 0);
        }
        // As many of each finding as its place tells; no act answers STATE.
        x.cap(0);
        for (int b = 0; b < 8; b++) {
            x.beast(1);
        }
        x.part(1, 0, 1, 0);
        for (int i = 0; i < 3; i++) {
            x.as(0, 2);
        }
        for (int i = 0; i < 4; i++) {
            x.undo();
        }
        for (int i = 0; i < 5; i++) {
            x.read(0);
        }
        for (int i = 0; i < 6; i++) {
            x.sheet(0, 8, -1);
        }
        long[] due = {1, 2, 3, 4, 0, 5, 6};
        for (int which = 0; which <= 6; which++) {
            Edge.past("status(" + which + ")", x.status(which), due[which]);
        }
        Edge.past("status(-1)", x.status(-1), 21);
        Edge.past("write's findings are counted, too", x.write(0, 0, 0), Check.MISSING);
        Edge.past("status(5)", x.status(5), 6);
        x.house();
        x.stands();
        Edge.within("a fault and a 0 are none", x.status(-1), 22);
    }

    private static void statusWhich() {
        Edge.says("Promise 42", "BEYOND (counted from then on): another one");
        FeltHouse x = new FeltHouse();
        int asked = 0;
        for (int which : new int[] {-2, 7, Check.LEAST, Check.MOST}) {
            Edge.past("status(" + which + ")", x.status(which), Check.BEYOND);
            asked++;
            Edge.past("status(0) behind it", x.status(0), asked);
            Edge.past("status(-1) behind it", x.status(-1), asked);
        }
        Edge.within("status(-1) isn't counted itself", x.status(-1), 4);
        Edge.within("status(6)", x.status(6), 0);
        Edge.within("status(0)", x.status(0), 4);
    }

    private static void undoTakesNoneBack() {
        Edge.says("Promise 42", "How many acts answered a finding ever (undo() takes none back)");
        FeltHouse x = new FeltHouse();
        x.image();
        x.cap(0);
        Edge.past("ahead of undo()", x.status(-1), 1);
        x.undo();
        Edge.within("behind undo()", x.status(-1), 1);
        x.tear();
        x.undo();
        Edge.within("an undo() that is refused is counted", x.status(-1), 2);
    }
}
