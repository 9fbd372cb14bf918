/** Promises 29 to 31: the tape and the house that it tells. */
public final class TextTest {
    private static final long FINDING_LINE = -1000000000L;

    public static void main(String[] args) {
        feed();
        wipe();
        parts();
        campsBeastsDraw();
        tokens();
        faults();
        numbers();
        tooMany();
        nothingChangesWithAFault();
        Check.end();
    }

    private static void told(String text, long want) {
        FeltHouse x = new FeltHouse();
        Check.due("\"" + text + "\"", Check.told(x, text), want);
        Check.due("the tape behind \"" + text + "\"", x.count(4), 0);
        Check.due("findings behind \"" + text + "\"", x.status(-1), 0);
    }

    private static void feed() {
        FeltHouse x = new FeltHouse();
        Check.due("n 0", x.feed(1, 0), Check.BEYOND);
        Check.due("n 5", x.feed(1, 5), Check.BEYOND);
        Check.due("n -1", x.feed(1, -1), Check.BEYOND);
        Check.due("the lowest byte alone", x.feed(0x71727364, 1), 1);
        Check.due("the two lowest, the highest first", x.feed(0x71727261, 2), 3);
        Check.due("three", x.feed(0x71772037, 3), 6);
        Check.due("draw 7", x.house(), 1);
        Check.due("is drawn", x.count(6), 7);
        Check.due("four with the highest bit", x.feed(0xff626364, 4), 4);
        Check.due("its first byte begins no token", x.house(), -1);
        for (int i = 1; i <= 30; i++) {
            Check.due("feed " + i, x.feed(0x20202020, 4), 4 * i);
        }
        Check.due("a 121st byte", x.feed(32, 1), Check.FULL);
        Check.due("n is asked first", x.feed(32, 5), Check.BEYOND);
        Check.due("120 bytes", x.count(4), 120);
        Check.due("120 blanks", x.house(), -121);
        x = new FeltHouse();
        for (int i = 0; i < 39; i++) {
            x.feed(0x202020, 3);
        }
        Check.due("117 and 4", x.feed(0x20202020, 4), Check.FULL);
        Check.due("117 stay", x.count(4), 117);
        Check.due("117 and 3", x.feed(0x202020, 3), 120);
    }

    private static void wipe() {
        FeltHouse x = new FeltHouse();
        Check.feed(x, "draw 9");
        Check.due("wipe()", x.wipe(), 6);
        Check.due("wipe() again", x.wipe(), 0);
        Check.due("an empty tape", x.house(), -1);
        x.draw(20);
        Check.due("drawn is no word", Check.told(x, "drawn"), -1);
        Check.due("nothing of it stays behind draw", Check.told(x, "draw"), -5);
        Check.due("draw 12", Check.told(x, "draw 12"), 1);
        Check.due("draw 1", Check.told(x, "draw 1"), 1);
        Check.due("nothing of 12 stays behind 1", x.draw(20), 1);
        Check.due("nothing is drawn", x.count(6), 20);
    }

    private static void parts() {
        FeltHouse x = new FeltHouse();
        String[] names = {"part", "pole", "band", "stone", "felt", "flap", "rope"};
        for (int kind = 0; kind < 7; kind++) {
            Check.due(names[kind], Check.told(x, names[kind] + " " + kind + " 5"), 1);
            Check.due("its kind", x.of(kind, 0), kind);
            Check.due("its side", x.of(kind, 1), kind);
            Check.due("its strength", x.of(kind, 2), 5);
            Check.due("its weight", x.of(kind, 3), 0);
            Check.due("its wear", x.of(kind, 4), 0);
            Check.due("it is there", x.of(kind, 5), 1);
        }
        Check.due("weight and wear", Check.told(x, "felt 7 999 weight 99 wear 98,pole 0 1 wear 7,band 1 2 weight 3"), 3);
        int[][] due = {{4, 7, 999, 99, 98, 1}, {1, 0, 1, 0, 7, 1}, {2, 1, 2, 3, 0, 1}};
        for (int i = 0; i < 3; i++) {
            for (int what = 0; what < 6; what++) {
                Check.due("of(" + (7 + i) + ", " + what + ")", x.of(7 + i, what), due[i][what]);
            }
        }
    }

    private static void campsBeastsDraw() {
        FeltHouse x = new FeltHouse();
        Check.due("camps", Check.told(x, "camp 99,camp 0 grass 999,camp 5 grass 1 2 3 4 5 6 7 8 9 10 11 12"), 3);
        Check.due("far of the first", x.campOf(0, 12), 99);
        Check.due("grass of the first", x.campOf(0, 0), 0);
        Check.due("grass of the second", x.campOf(1, 0), 999);
        Check.due("no more of the second", x.campOf(1, 1), 0);
        for (int month = 0; month < 12; month++) {
            Check.due("grass of the third in " + month, x.campOf(2, month), month + 1);
        }
        Check.due("beasts and draws", Check.told(x, "beast 1,draw 99,beast 999,draw 0"), 4);
        Check.due("cap(0)", x.cap(0), 1);
        Check.due("cap(1)", x.cap(1), 999);
        Check.due("the last draw", x.count(6), 0);
        x.image();
        Check.told(x, "camp 1 grass 5 5 5");
        x.undo();
        Check.told(x, "camp 2");
        Check.due("a camp in a place that had grass", x.campOf(3, 1), 0);
    }

    private static void tokens() {
        told("draw9", 1);
        told("  draw   9  ", 1);
        told("pole0 20weight5wear3,camp5grass1 2", 2);
        told("draw 9 , draw 8", 2);
        told("draw 9,draw 8,draw 7,draw 6,draw 5,draw 4", 6);
        told("draw 0007", 1);
        told("draw 00000000000000000000000000000000000000000000000000000000000000000007", 1);
        told("drawn 9", -1);
        told("drawz 9", -1);
        told("xraw 9", -1);
        told("hole 1 1", -1);
        told("dra w 9", -1);
        told("Draw 9", -1);
        told("draw\t9", -5);
        told("draw\n9", -5);
        told("draw -9", -6);
        told("draw 9\0", -7);
        told("draw 9" + (char) 225, -7);
    }

    private static void faults() {
        told("", -1);
        told("   ", -4);
        told(",", -1);
        told("9", -1);
        told("weight 5", -1);
        told("draw", -5);
        told("draw ", -6);
        told("draw 9,", -8);
        told("draw 9, ", -9);
        told("draw 9,,draw 9", -8);
        told("draw 9;draw 9", -7);
        told("draw 9 draw 9", -8);
        told("draw 9 9", -8);
        told("draw draw", -6);
        told("pole", -5);
        told("pole 1", -7);
        told("pole , 1", -6);
        told("pole 1 weight", -8);
        told("pole 1 1 weight", -16);
        told("pole 1 1 weight ,", -17);
        told("pole 1 1 wear", -14);
        told("pole 1 1 wear 1 weight 1", -17);
        told("pole 1 1 weight 1 weight 1", -19);
        told("pole 1 1 wear 1 wear 1", -17);
        told("pole 1 1 grass 1", -10);
        told("pole 1 1 weigh 1", -10);
        told("pole 1 1 1", -10);
        told("camp", -5);
        told("camp 1 grass", -13);
        told("camp 1 grass ,", -14);
        told("camp 1 grass grass", -14);
        told("camp 1 grass 1 grass", -16);
        told("camp 1 1", -8);
        told("camp 1 weight 1", -8);
        told("camp 1 grass 1 2 3 4 5 6 7 8 9 10 11 12 13", -41);
        told("beast", -6);
        told("beast 1 weight 1", -9);
        told("house 1 1", -1);
    }

    private static void numbers() {
        told("pole 7 1", 1);
        told("pole 8 1", -6);
        told("pole 1 0", -8);
        told("pole 1 999", 1);
        told("pole 1 1000", -8);
        told("pole 0 1 weight 0 wear 0", 1);
        told("pole 1 1 weight 99", 1);
        told("pole 1 1 weight 100", -17);
        told("pole 1 1 wear 99", 1);
        told("pole 1 1 wear 100", -15);
        told("camp 99", 1);
        told("camp 100", -6);
        told("camp 1 grass 999", 1);
        told("camp 1 grass 1000", -14);
        told("camp 1 grass 0 1000", -16);
        told("beast 0", -7);
        told("beast 999", 1);
        told("beast 1000", -7);
        told("draw 99", 1);
        told("draw 100", -6);
        told("draw 4294967301", -6);
        told("draw 99999999999999999999999999999999999999999999", -6);
        told("camp 1 grass 18446744073709551617", -14);
    }

    private static void tooMany() {
        FeltHouse x = new FeltHouse();
        for (int p = 0; p < 19; p++) {
            x.part(0, 0, 1, 1);
        }
        Check.due("a 21st part", Check.told(x, "pole 0 1,draw 1,band 0 1"), -17);
        Check.due("a 20th part", Check.told(x, "pole 0 1,draw 1"), 2);
        Check.due("a 21st part at once", Check.told(x, " pole 0 1"), -2);
        Check.due("a 21st part ahead of what is wrong in it", Check.told(x, "pole 9 1"), -1);
        for (int c = 0; c < 5; c++) {
            x.camp(1);
            x.beast(1);
        }
        Check.due("a 7th camp", Check.told(x, "camp 1,camp 1"), -8);
        Check.due("a 7th beast", Check.told(x, "beast 1,beast 1"), -9);
        Check.due("a 6th of each", Check.told(x, "beast 1,camp 1"), 2);
        Check.due("camps", x.count(3), 6);
        Check.due("beasts", x.count(2), 6);
        Check.due("no finding", x.status(-1), 0);
    }

    private static void nothingChangesWithAFault() {
        FeltHouse x = new FeltHouse();
        x.part(1, 1, 1, 1);
        Check.due("a fault behind all sorts", Check.told(x, "pole 0 1,camp 1 grass 5,beast 1,draw 5,x"), -40);
        Check.due("parts", x.count(0), 1);
        Check.due("beasts", x.count(2), 0);
        Check.due("camps", x.count(3), 0);
        Check.due("the tape", x.count(4), 0);
        Check.due("draw", x.count(6), 20);
        Check.holds("a fault is no finding", x.house() > FINDING_LINE);
        Check.due("status", x.status(-1), 0);
        x.image();
        Check.feed(x, "draw 5");
        x.undo();
        Check.due("undo() leaves the tape", x.house(), 1);
    }
}
