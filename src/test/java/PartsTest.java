/** Promises 1 to 9: a new object, its parts, the sky, the draw, ageing. */
public final class PartsTest {
    public static void main(String[] args) {
        newObject();
        part();
        of();
        pushes();
        holds();
        warms();
        set();
        want();
        as();
        sky();
        draw();
        age();
        Check.end();
    }

    private static void newObject() {
        FeltHouse x = new FeltHouse();
        for (int what = 0; what <= 5; what++) {
            Check.due("count(" + what + ") of a new object", x.count(what), 0);
        }
        Check.due("draw at first", x.count(6), 20);
        Check.due("wipe() of a new object", x.wipe(), 0);
        for (int which = -1; which <= 6; which++) {
            Check.due("status(" + which + ") of a new object", x.status(which), 0);
        }
        Check.due("tear() of a new object", x.tear(), 0);
        Check.due("undo() of a new object", x.undo(), Check.NONE);
        Check.due("read(3) of a new object", x.read(3), Check.MISSING);
        Check.due("wind at first", x.sky(0, 1), 0);
        Check.due("from at first", x.sky(1, 1), 0);
        Check.due("wet at first", x.sky(2, 1), 0);
        Check.due("snow at first", x.sky(3, 1), 0);
        Check.due("cold at first", x.sky(4, 1), 20);
        Check.due("herd at first", x.herd(0, 1), 100);
        Check.due("road at first", x.herd(1, 1), 2);
        Check.due("pack at first", x.herd(2, 1), 5);
    }

    private static void part() {
        FeltHouse x = new FeltHouse();
        Check.due("kind -1", x.part(-1, 0, 1, 0), Check.BEYOND);
        Check.due("kind 7", x.part(7, 0, 1, 0), Check.BEYOND);
        Check.due("side -1", x.part(0, -1, 1, 0), Check.BEYOND);
        Check.due("side 8", x.part(0, 8, 1, 0), Check.BEYOND);
        Check.due("strength 0", x.part(0, 0, 0, 0), Check.BEYOND);
        Check.due("strength 1000", x.part(0, 0, 1000, 0), Check.BEYOND);
        Check.due("weight -1", x.part(0, 0, 1, -1), Check.BEYOND);
        Check.due("weight 100", x.part(0, 0, 1, 100), Check.BEYOND);
        Check.due("all wrong", x.part(Check.LEAST, Check.MOST, Check.LEAST, Check.MOST), Check.BEYOND);
        Check.due("no part came", x.count(0), 0);
        for (int p = 0; p < 20; p++) {
            Check.due("part " + p, x.part(p % 7, p % 8, p % 2 == 0 ? 1 : 999, p % 2 == 0 ? 0 : 99), p);
        }
        Check.due("a 21st part", x.part(0, 0, 1, 0), Check.FULL);
        Check.due("a wrong 21st part is BEYOND first", x.part(7, 0, 1, 0), Check.BEYOND);
        Check.due("20 parts", x.count(0), 20);
        Check.due("status of FULL", x.status(1), 1);
        Check.due("status of BEYOND", x.status(0), 10);
    }

    private static void of() {
        FeltHouse x = new FeltHouse();
        x.part(5, 3, 77, 9);
        x.set(0, 4, 50);
        int[] due = {5, 3, 77, 9, 50, 1, 38, 0, 3, 7};
        for (int what = 0; what < due.length; what++) {
            Check.due("of(0, " + what + ")", x.of(0, what), due[what]);
        }
        Check.due("what -1", x.of(0, -1), Check.BEYOND);
        Check.due("what 10", x.of(0, 10), Check.BEYOND);
        Check.due("part 1", x.of(1, 0), Check.BEYOND);
        Check.due("part -1", x.of(-1, 0), Check.BEYOND);
        Check.due("part least", x.of(Check.LEAST, 0), Check.BEYOND);
        Check.due("part most", x.of(Check.MOST, 0), Check.BEYOND);
        x.want(0, false);
        Check.due("wanting", x.of(0, 5), 0);
        Check.due("its good", x.of(0, 6), 0);
        Check.due("its wear stays", x.of(0, 4), 50);
        Check.due("its strength stays", x.of(0, 2), 77);
    }

    private static void pushes() {
        FeltHouse x = new FeltHouse();
        for (int kind = 0; kind < 7; kind++) {
            x.part(kind, 2, 100, 50);
        }
        x.sky(0, 40);
        x.sky(3, 99);
        int[] calm = {0, 124, 0, 0, 0, 0, 0};
        for (int p = 0; p < 7; p++) {
            Check.due("pushes of kind " + p, x.of(p, 7), calm[p]);
        }
        x.sky(1, 2);
        Check.due("a flap with the wind from its side", x.of(5, 7), 40);
        Check.due("a felt with the wind from its side", x.of(4, 7), 0);
        x.set(5, 2, 1);
        x.set(5, 4, 99);
        Check.due("a flap without good that is there", x.of(5, 7), 40);
        x.want(5, false);
        Check.due("a wanting flap", x.of(5, 7), 0);
        x.set(1, 2, 1);
        Check.due("a pole of good 1", x.of(1, 7), 25);
        x.set(1, 4, 1);
        Check.due("a pole without good", x.of(1, 7), 0);
        x.set(1, 4, 0);
        x.want(1, false);
        Check.due("a wanting pole", x.of(1, 7), 0);
    }

    private static void holds() {
        FeltHouse x = new FeltHouse();
        for (int kind = 0; kind < 7; kind++) {
            x.part(kind, 2, 109, 50);
        }
        int[] dry = {0, 0, 109, 50, 10, 10, 109};
        for (int p = 0; p < 7; p++) {
            Check.due("holds of kind " + p, x.of(p, 8), dry[p]);
        }
        x.draw(33);
        Check.due("a band drawn by 33", x.of(2, 8), 179);
        x.sky(2, 3);
        Check.due("a band in the wet", x.of(2, 8), 179);
        Check.due("a rope in the wet", x.of(6, 8), 179 - 53);
        x.sky(2, 9);
        Check.due("a rope in the wettest", x.of(6, 8), 179 - 161);
        x.draw(0);
        Check.due("a slack rope", x.of(6, 8), 0);
        x.set(3, 2, 1);
        x.set(3, 4, 1);
        Check.due("a stone without good", x.of(3, 8), 0);
        x.set(3, 4, 0);
        Check.due("a stone of good 1", x.of(3, 8), 50);
        x.want(3, false);
        Check.due("a wanting stone", x.of(3, 8), 0);
    }

    private static void warms() {
        FeltHouse x = new FeltHouse();
        for (int kind = 0; kind < 7; kind++) {
            x.part(kind, 2, 99, 50);
        }
        x.sky(0, 50);
        int[] dry = {0, 0, 0, 0, 19, 14, 0};
        for (int p = 0; p < 7; p++) {
            Check.due("warms of kind " + p, x.of(p, 9), dry[p]);
        }
        x.sky(2, 4);
        Check.due("a felt at wet 4", x.of(4, 9), 19);
        x.sky(2, 5);
        Check.due("a felt at wet 5", x.of(4, 9), 9);
        Check.due("a flap at wet 5", x.of(5, 9), 4);
        x.set(5, 2, 20);
        Check.due("a flap is 0 at least", x.of(5, 9), 0);
    }

    private static void set() {
        FeltHouse x = new FeltHouse();
        x.part(2, 1, 10, 20);
        Check.due("strength", x.set(0, 2, 999), 10);
        Check.due("strength again", x.set(0, 2, 1), 999);
        Check.due("weight", x.set(0, 3, 99), 20);
        Check.due("weight again", x.set(0, 3, 0), 99);
        Check.due("wear", x.set(0, 4, 99), 0);
        Check.due("wear again", x.set(0, 4, 0), 99);
        Check.due("strength 0", x.set(0, 2, 0), Check.BEYOND);
        Check.due("strength 1000", x.set(0, 2, 1000), Check.BEYOND);
        Check.due("weight -1", x.set(0, 3, -1), Check.BEYOND);
        Check.due("weight 100", x.set(0, 3, 100), Check.BEYOND);
        Check.due("wear -1", x.set(0, 4, -1), Check.BEYOND);
        Check.due("wear 100", x.set(0, 4, 100), Check.BEYOND);
        Check.due("what 1", x.set(0, 1, 1), Check.BEYOND);
        Check.due("what 5", x.set(0, 5, 1), Check.BEYOND);
        Check.due("part 1", x.set(1, 2, 1), Check.BEYOND);
        Check.due("part -1", x.set(-1, 2, 1), Check.BEYOND);
        Check.due("strength stays", x.of(0, 2), 1);
        Check.due("weight stays", x.of(0, 3), 0);
        Check.due("wear stays", x.of(0, 4), 0);
        x.want(0, false);
        Check.due("wear of a wanting part", x.set(0, 4, 7), 0);
        Check.due("it is still wanting", x.of(0, 5), 0);
    }

    private static void want() {
        FeltHouse x = new FeltHouse();
        x.part(2, 1, 10, 20);
        x.part(2, 1, 10, 20);
        Check.due("there already", x.want(0, true), 0);
        Check.due("wanting now", x.want(0, false), 1);
        Check.due("wanting already", x.want(0, false), 0);
        Check.due("the other one is there", x.of(1, 5), 1);
        Check.due("there again", x.want(0, true), 1);
        Check.due("its good", x.of(0, 6), 10);
        Check.due("part 2", x.want(2, true), Check.BEYOND);
        Check.due("part -1", x.want(-1, false), Check.BEYOND);
    }

    private static void as() {
        FeltHouse x = new FeltHouse();
        for (int kind = 0; kind < 7; kind++) {
            x.part(kind, 0, 10 + kind, 0);
        }
        int[] above = {0, 0, 0, 0, 0, 4, 2};
        for (int p = 0; p < 7; p++) {
            for (int kind = 0; kind < 7; kind++) {
                boolean is = kind == p || kind == above[p] || kind == 0;
                Check.due("as(" + p + ", " + kind + ")", x.as(p, kind), is ? 10 + p : Check.KIND);
            }
        }
        Check.due("kind -1", x.as(0, -1), Check.BEYOND);
        Check.due("kind 7", x.as(0, 7), Check.BEYOND);
        Check.due("part 7", x.as(7, 0), Check.BEYOND);
        Check.due("part -1", x.as(-1, 0), Check.BEYOND);
        x.want(6, false);
        Check.due("a wanting one", x.as(6, 2), 0);
        Check.due("a wanting one is asked its kind", x.as(6, 4), Check.KIND);
    }

    private static void sky() {
        FeltHouse x = new FeltHouse();
        int[] most = {99, 7, 9, 99, 60};
        for (int what = 0; what < 5; what++) {
            Check.due("sky(" + what + ") becomes its most", x.sky(what, most[what]), what == 4 ? 20 : 0);
            Check.due("sky(" + what + ") above", x.sky(what, most[what] + 1), Check.BEYOND);
            Check.due("sky(" + what + ") below", x.sky(what, -1), Check.BEYOND);
            Check.due("sky(" + what + ") becomes 0", x.sky(what, 0), most[what]);
            Check.due("sky(" + what + ") is 0", x.sky(what, 1), 0);
        }
        Check.due("what -1", x.sky(-1, 0), Check.BEYOND);
        Check.due("what 5", x.sky(5, 0), Check.BEYOND);
        Check.due("what most", x.sky(Check.MOST, 0), Check.BEYOND);
    }

    private static void draw() {
        FeltHouse x = new FeltHouse();
        Check.due("draw(99)", x.draw(99), 20);
        Check.due("draw(100)", x.draw(100), Check.BEYOND);
        Check.due("draw(-1)", x.draw(-1), Check.BEYOND);
        Check.due("draw(0)", x.draw(0), 99);
        Check.due("count(6)", x.count(6), 0);
    }

    private static void age() {
        FeltHouse x = new FeltHouse();
        x.part(1, 0, 100, 1);
        x.part(2, 0, 100, 1);
        x.part(3, 0, 100, 1);
        Check.due("age(0)", x.age(0), Check.BEYOND);
        Check.due("age(51)", x.age(51), Check.BEYOND);
        Check.due("age(-1)", x.age(-1), Check.BEYOND);
        x.set(1, 4, 98);
        x.want(2, false);
        Check.due("age(1)", x.age(1), 0);
        Check.due("wear 1 more", x.of(0, 4), 1);
        Check.due("wear 99", x.of(1, 4), 99);
        Check.due("a wanting one doesn't age", x.of(2, 4), 0);
        Check.due("a second age(1)", x.age(1), 1);
        Check.due("wear 100 is 0", x.of(1, 4), 0);
        Check.due("and wanting", x.of(1, 5), 0);
        Check.due("age(50)", x.age(50), 0);
        Check.due("wear 52", x.of(0, 4), 52);
        x.sky(2, 4);
        x.age(1);
        Check.due("wet 4: 1 more", x.of(0, 4), 53);
        x.sky(2, 5);
        x.age(1);
        Check.due("wet 5: 2 more", x.of(0, 4), 55);
        x.age(22);
        Check.due("wear 99 again", x.of(0, 4), 99);
        Check.due("past 100", x.age(50), 1);
        Check.due("its wear", x.of(0, 4), 0);
        Check.due("none is there", x.count(1), 0);
    }
}
