/** Promises 38 to 42: images, counts, the status of findings. */
public final class ImagesTest {
    public static void main(String[] args) {
        undoTakesAllBack();
        latestStays();
        tear();
        notKept();
        count();
        status();
        Check.end();
    }

    private static void undoTakesAllBack() {
        FeltHouse x = new FeltHouse();
        x.part(4, 3, 100, 9);
        x.part(1, 2, 50, 8);
        x.want(1, false);
        x.beast(70);
        x.camp(7);
        x.grass(0, 5, 55);
        Check.due("image()", x.image(), 1);
        x.part(0, 0, 1, 1);
        x.set(0, 2, 7);
        x.set(0, 3, 7);
        x.set(0, 4, 7);
        x.want(0, false);
        x.want(1, true);
        int[] other = {9, 2, 3, 4, 5};
        for (int what = 0; what < 5; what++) {
            x.sky(what, other[what]);
        }
        x.draw(5);
        x.beast(80);
        x.camp(8);
        x.grass(0, 5, 6);
        x.grass(1, 5, 6);
        for (int what = 0; what < 3; what++) {
            x.herd(what, 9);
        }
        Check.due("undo()", x.undo(), 2);
        int[] first = {4, 3, 100, 9, 0, 1};
        int[] second = {1, 2, 50, 8, 0, 0};
        for (int what = 0; what < 6; what++) {
            Check.due("of(0, " + what + ")", x.of(0, what), first[what]);
            Check.due("of(1, " + what + ")", x.of(1, what), second[what]);
        }
        Check.due("of(2, 0)", x.of(2, 0), Check.BEYOND);
        Check.due("those there", x.count(1), 1);
        Check.due("weight there", x.count(5), 9);
        Check.due("draw", x.count(6), 20);
        Check.due("beasts", x.count(2), 1);
        Check.due("camps", x.count(3), 1);
        Check.due("grass", x.campOf(0, 5), 55);
        int[] sky = {0, 0, 0, 0, 20};
        for (int what = 0; what < 5; what++) {
            Check.due("sky(" + what + ")", x.sky(what, 1), sky[what]);
        }
        int[] herd = {100, 2, 5};
        for (int what = 0; what < 3; what++) {
            Check.due("herd(" + what + ")", x.herd(what, 1), herd[what]);
        }
        Check.due("a new part", x.part(2, 2, 2, 2), 2);
        Check.due("it is there", x.of(2, 5), 1);
        Check.due("its wear", x.of(2, 4), 0);
        Check.due("a new camp", x.camp(1), 1);
        Check.due("it is without grass", x.campOf(1, 5), 0);
        Check.due("a new beast", x.beast(3), 1);
        Check.due("its cap", x.cap(1), 3);
    }

    private static void latestStays() {
        FeltHouse x = new FeltHouse();
        x.image();
        x.draw(1);
        Check.due("a second image()", x.image(), 1);
        x.draw(2);
        x.undo();
        Check.due("the latest", x.count(6), 1);
        x.draw(3);
        Check.due("undo() again", x.undo(), 0);
        Check.due("it stayed", x.count(6), 1);
        x.part(0, 0, 1, 1);
        x.image();
        x.set(0, 3, 2);
        x.undo();
        x.set(0, 3, 4);
        x.undo();
        Check.due("what is changed behind an undo() isn't kept", x.of(0, 3), 1);
    }

    private static void tear() {
        FeltHouse x = new FeltHouse();
        Check.due("nothing was", x.tear(), 0);
        x.image();
        x.image();
        Check.due("something was", x.tear(), 1);
        Check.due("nothing is now", x.tear(), 0);
        Check.due("undo()", x.undo(), Check.NONE);
        x.draw(7);
        x.image();
        x.draw(8);
        x.undo();
        Check.due("kept anew", x.count(6), 7);
    }

    private static void notKept() {
        FeltHouse x = new FeltHouse();
        x.sheet(0, 8, 1);
        x.feed(32, 1);
        x.image();
        x.sheet(1, 8, 1);
        x.write(0, 0, 5);
        x.feed(32, 1);
        x.cap(0);
        x.undo();
        Check.due("the tape", x.count(4), 2);
        Check.due("a sheet", x.write(0, 0, 0), 5);
        Check.due("a new sheet", x.write(1, 0, 0), 0);
        Check.due("status", x.status(-1), 1);
    }

    private static void count() {
        FeltHouse x = new FeltHouse();
        x.part(0, 0, 1, 5);
        x.part(0, 0, 1, 6);
        x.part(0, 0, 1, 7);
        x.want(1, false);
        x.beast(1);
        x.beast(1);
        x.beast(1);
        x.beast(1);
        for (int c = 0; c < 5; c++) {
            x.camp(1);
        }
        x.feed(0, 4);
        x.feed(0, 3);
        int[] due = {3, 2, 4, 5, 7, 12, 20};
        for (int what = 0; what < 7; what++) {
            Check.due("count(" + what + ")", x.count(what), due[what]);
        }
        Check.due("count(7)", x.count(7), Check.BEYOND);
        Check.due("count(-1)", x.count(-1), Check.BEYOND);
        Check.due("count(least)", x.count(Check.LEAST), Check.BEYOND);
    }

    private static void status() {
        FeltHouse x = new FeltHouse();
        x.cap(0);
        for (int b = 0; b < 8; b++) {
            x.beast(1);
        }
        x.part(1, 0, 1, 1);
        x.as(0, 2);
        x.as(0, 3);
        x.as(0, 4);
        x.undo();
        x.span(0);
        x.span(1);
        x.read(0);
        x.write(0, 0, 0);
        x.sheet(0, 8, -1);
        x.house();
        int[] due = {13, 1, 2, 3, 3, 0, 2, 1};
        due[0] = 1 + 2 + 3 + 3 + 2 + 1;
        for (int which = -1; which <= 6; which++) {
            Check.due("status(" + which + ")", x.status(which), due[which + 1]);
        }
        Check.due("status(7)", x.status(7), Check.BEYOND);
        Check.due("counted from then on", x.status(0), 2);
        Check.due("status(-2)", x.status(-2), Check.BEYOND);
        Check.due("counted, too", x.status(0), 3);
        Check.due("all", x.status(-1), due[0] + 2);
        x.image();
        x.cap(-1);
        x.undo();
        Check.due("undo() takes none back", x.status(0), 4);
    }
}
