/** Boundary sentences of promises 29 to 31, and those of section 2 on the tape and its text. */
public final class TextEdgesTest {
    private static final String[] KINDS = {"part", "pole", "band", "stone", "felt", "flap", "rope"};

    public static void main(String[] args) {
        feedBytes();
        feedCounts();
        tapeIsFull();
        wipe();
        asLongAsCanBe();
        bytesBehind();
        bytesBetween();
        bytesAhead();
        numbers();
        itemsAndSigns();
        partItems();
        partNumbers();
        campItems();
        grassNumbers();
        beastAndDrawItems();
        otherWords();
        endsTooEarly();
        twentyFirstPart();
        seventhCampAndBeast();
        house();
        nothingChanges();
        Edge.end();
    }

    /** What a new object makes of a text of bytes. */
    private static int told(String text) {
        return Check.told(new FeltHouse(), text);
    }

    private static void may(String text, int items) {
        Edge.within("\"" + text + "\"", told(text), items);
    }

    /** The fault is at the first byte of the rest, or at the end if there is none. */
    private static void mayNot(String sound, String rest) {
        Edge.past("\"" + sound + rest + "\"", told(sound + rest), -1 - sound.length());
    }

    private static void feedBytes() {
        Edge.says("Promise 29", "the n lowest bytes of a number behind it, the highest of these first (n 1 to 4)");
        FeltHouse x = new FeltHouse();
        Edge.range("n", 1, 4, n -> new FeltHouse().feed(-1, n), n -> n);
        // "draw5" in four ways; a byte too many or another order would be a fault or another draw.
        int[][] ways = {{'d', 1, 'r', 1, 'a', 1, 'w', 1, '5', 1}, {0x7f006472, 2, 0x7f006177, 2, '5', 1},
            {0x7f647261, 3, 0x7f007735, 2}, {0x64726177, 4, 0x7f7f7f35, 1}, {'d', 1, 0x72617735, 4}};
        for (int[] way : ways) {
            for (int i = 0; i < way.length; i += 2) {
                x.feed(way[i], way[i + 1]);
            }
            Edge.within("draw5", x.house(), 1);
            Edge.within("is drawn", x.draw(20), 5);
        }
        x.feed(0x80647261, 4);
        x.feed(0x7735, 2);
        Edge.past("a fourth byte, above 127", x.house(), -1);
        x.feed(0x64726177, 3);
        x.feed('5', 1);
        Edge.past("three of \"draw\" without its d", x.house(), -1);
    }

    private static void feedCounts() {
        Edge.says("Promise 29", "how many it has");
        FeltHouse x = new FeltHouse();
        for (int i = 1; i <= 120; i++) {
            Edge.within("byte " + i, x.feed(0, 1), i);
        }
        Edge.past("a 121st", x.feed(0, 1), Check.FULL);
    }

    private static FeltHouse withBytes(int n) {
        FeltHouse x = new FeltHouse();
        int size = 0;
        while (size < n) {
            int more = Math.min(4, n - size);
            x.feed(0x20202020, more);
            size += more;
        }
        return x;
    }

    private static void tapeIsFull() {
        Edge.says("Terms", "THE TAPE (bytes, at most 120)");
        for (int n = 1; n <= 4; n++) {
            FeltHouse x = withBytes(120 - n);
            Edge.within(n + " bytes that come to 120", x.feed(0x20202020, n), 120);
            Edge.past("one more", x.feed(32, 1), Check.FULL);
            x = withBytes(121 - n);
            Edge.past(n + " bytes that come to 121", x.feed(0x20202020, n), Check.FULL);
            Edge.past("as many as it had", x.count(4), 121 - n);
        }
        FeltHouse x = withBytes(114);
        x.feed(0x64726177, 4);
        x.feed(0x2037, 2);
        Edge.within("120 bytes are read to the last", x.house(), 1);
        Edge.within("it is drawn", x.count(6), 7);
        Edge.says("Promise 29", "BEYOND: n. FULL");
        x = withBytes(120);
        Edge.past("a full tape, n 1", x.feed(32, 1), Check.FULL);
        Edge.past("a full tape, n 0", x.feed(32, 0), Check.BEYOND);
        Edge.past("a full tape, n 5", x.feed(32, 5), Check.BEYOND);
        x.wipe();
        Edge.within("an empty one", x.feed(32, 1), 1);
    }

    private static void wipe() {
        Edge.says("Promise 30", "THE TAPE is empty: how many it had");
        Edge.past("none", new FeltHouse().wipe(), 0);
        Edge.within("one", withBytes(1).wipe(), 1);
        FeltHouse x = withBytes(120);
        Edge.within("120", x.wipe(), 120);
        Edge.past("none then", x.wipe(), 0);
        Edge.within("room for a byte", x.feed(32, 1), 1);
        Edge.within("it alone", x.wipe(), 1);
    }

    private static void asLongAsCanBe() {
        Edge.says("Terms", "TOKENS, each as long as can be");
        may("draw9", 1);
        may("draw12", 1);
        may("pole0 1weight2wear3", 1);
        mayNot("", "drawn9");
        mayNot("", "drawdraw9");
        mayNot("pole01", "");
        mayNot("pole 0 1 ", "weightwear 3");
        mayNot("pole 0 1 ", "weights 3");
        mayNot("camp 0 ", "grassy 3");
        may("pole 01 1", 1);
        mayNot("pole 01", "");
        FeltHouse x = new FeltHouse();
        Edge.within("draw12", Check.told(x, "draw12"), 1);
        Edge.within("12, not 1", x.count(6), 12);
    }

    private static boolean isLetter(int b) {
        return b >= 97 && b <= 122;
    }

    private static boolean isDigit(int b) {
        return b >= 48 && b <= 57;
    }

    private static void bytesBehind() {
        Edge.says("Terms", "a byte that begins no TOKEN");
        for (int b = 0; b < 256; b++) {
            int answer = told("draw 9" + (char) b);
            if (isDigit(b) || b == 32) {
                Edge.within("draw 9 and byte " + b, answer, 1);
            } else {
                // A comma may stand there; the text ends too early behind it.
                Edge.past("draw 9 and byte " + b, answer, b == 44 ? -8 : -7);
            }
        }
    }

    private static void bytesBetween() {
        Edge.says("Terms", "WORDS (letters a to z), NUMBERS (digits, 999 at most), SIGN , ; blanks may stand between");
        for (int b = 0; b < 256; b++) {
            int answer = told("draw" + (char) b + "9");
            if (isDigit(b) || b == 32) {
                Edge.within("draw, byte " + b + ", 9", answer, 1);
            } else {
                Edge.past("draw, byte " + b + ", 9", answer, isLetter(b) ? -1 : -5);
            }
        }
        may("draw 9,draw 8", 2);
        may(" draw  9  ,  draw   8 ", 2);
        mayNot("draw 9", ";draw 8");
        mayNot("", "dr aw 9");
        mayNot("pole 1 2 ", "3");
    }

    private static void bytesAhead() {
        Edge.says("Terms", "FAULT: the place (from 0) of the first byte of the first TOKEN that can't stand there");
        for (int b = 0; b < 256; b++) {
            int answer = told((char) b + "draw 9");
            if (b == 32) {
                Edge.within("byte " + b + ", draw 9", answer, 1);
            } else {
                Edge.past("byte " + b + ", draw 9", answer, -1);
            }
        }
        mayNot("draw 9,", ",draw x");
        mayNot("draw 9,   ", "5 draw x");
        mayNot("   ", "x");
        mayNot(" ".repeat(119), "x");
        may(" ".repeat(113) + "draw 99", 1);
        mayNot(" ".repeat(113) + "draw", ",99");
    }

    private static void numbers() {
        Edge.says("Terms", "NUMBERS (digits, 999 at most)");
        may("beast 999", 1);
        mayNot("beast ", "1000");
        may("beast 0999", 1);
        mayNot("beast ", "01000");
        mayNot("beast ", "4294967297");
        mayNot("beast ", "18446744073709551617");
        mayNot("beast ", "9".repeat(114));
        may("beast " + "0".repeat(113) + "1", 1);
        mayNot("draw ", "1000");
        mayNot("camp 0 grass 1 ", "1000");
    }

    private static void itemsAndSigns() {
        Edge.says("Terms", "TEXT: ITEM { , ITEM }");
        may("draw 1", 1);
        may("draw 1,draw 2", 2);
        may("draw1" + ",draw1".repeat(19), 20);
        mayNot("", ",draw 1");
        mayNot("draw 1,", ",draw 1");
        mayNot("draw 1,", "");
        mayNot("draw 1 ", "draw 1");
        mayNot("draw1" + ",draw1".repeat(19) + ",", "");
        FeltHouse x = new FeltHouse();
        Check.told(x, "draw 1,draw 2,draw 3");
        Edge.within("the last of several draws", x.count(6), 3);
    }

    private static void partItems() {
        Edge.says("Terms", "a NUMBER (SIDE), a NUMBER (STRENGTH), perhaps weight and a NUMBER, perhaps wear and a NUMBER: a new one");
        for (String kind : KINDS) {
            may(kind + " 0 1", 1);
            may(kind + " 0 1 weight 2", 1);
            may(kind + " 0 1 wear 3", 1);
            may(kind + " 0 1 weight 2 wear 3", 1);
            mayNot(kind, "");
            mayNot(kind + " 0", "");
            mayNot(kind + " ", "weight 2");
            mayNot(kind + " 0 ", "weight 2");
            mayNot(kind + " 0", ",1");
            mayNot(kind + " 0 1 wear 3 ", "weight 2");
            mayNot(kind + " 0 1 weight 2 ", "weight 2");
            mayNot(kind + " 0 1 weight 2 wear 3 ", "wear 3");
            mayNot(kind + " 0 1 weight ", "wear 3");
            mayNot(kind + " 0 1 weight 2 wear", "");
            mayNot(kind + " 0 1 ", "2");
            mayNot(kind + " 0 1 ", "grass 2");
        }
        FeltHouse x = new FeltHouse();
        Check.told(x, "flap 7 999 weight 99 wear 99,rope 0 1");
        long[][] due = {{5, 7, 999, 99, 99, 1}, {6, 0, 1, 0, 0, 1}};
        for (int p = 0; p < 2; p++) {
            for (int what = 0; what < 6; what++) {
                Edge.within("of(" + p + ", " + what + ")", x.of(p, what), due[p][what]);
            }
        }
    }

    private static void partNumbers() {
        Edge.says("Terms", "(a NUMBER that may not be");
        may("pole 0 1", 1);
        may("pole 7 1", 1);
        mayNot("pole ", "8 1");
        may("pole 0 999", 1);
        mayNot("pole 0 ", "0");
        mayNot("pole 0 ", "1000");
        may("pole 0 1 weight 0", 1);
        may("pole 0 1 weight 99", 1);
        mayNot("pole 0 1 weight ", "100");
        may("pole 0 1 wear 0", 1);
        may("pole 0 1 wear 99", 1);
        mayNot("pole 0 1 wear ", "100");
        may("camp 0", 1);
        may("camp 99", 1);
        mayNot("camp ", "100");
        may("beast 1", 1);
        mayNot("beast ", "0");
        may("draw 0", 1);
        may("draw 99", 1);
        mayNot("draw ", "100");
    }

    private static void campItems() {
        Edge.says("Terms", "camp and a NUMBER (FAR), perhaps grass and one to twelve NUMBERS (by MONTHS from 0 on; 0 without): a new one");
        may("camp 5", 1);
        mayNot("camp", "");
        mayNot("camp ", "grass 1");
        mayNot("camp 5 ", "6");
        mayNot("camp 5 ", "weight 6");
        mayNot("camp 5 grass", "");
        mayNot("camp 5 grass ", ",");
        mayNot("camp 5 grass 1 ", "grass 1");
        String text = "camp 5 grass";
        for (int n = 1; n <= 12; n++) {
            text += " " + 10 * n;
            FeltHouse x = new FeltHouse();
            Edge.within(text, Check.told(x, text), 1);
            for (int month = 0; month < 12; month++) {
                Edge.within(n + " of grass, month " + month, x.campOf(0, month), month < n ? 10 * (month + 1) : 0);
            }
        }
        Edge.says("Terms", "a 13th one of grass");
        may(text, 1);
        may(text + ",draw 5", 2);
        mayNot(text + " ", "130");
        mayNot(text + " ", "0,draw 5");
    }

    private static void grassNumbers() {
        Edge.says("Terms", "each with GRASS (0 to 999)");
        may("camp 5 grass 0", 1);
        may("camp 5 grass 999", 1);
        mayNot("camp 5 grass ", "1000");
        may("camp 5 grass 0 999", 1);
        mayNot("camp 5 grass 0 ", "1000");
        may("camp 5 grass 0 0 0 0 0 0 0 0 0 0 0 999", 1);
        mayNot("camp 5 grass 0 0 0 0 0 0 0 0 0 0 0 ", "1000");
    }

    private static void beastAndDrawItems() {
        Edge.says("Terms", "beast and a NUMBER (CAP); draw and a NUMBER");
        may("beast 5", 1);
        mayNot("beast", "");
        mayNot("beast ", "beast 5");
        mayNot("beast 5 ", "6");
        mayNot("beast 5 ", "weight 6");
        may("draw 5", 1);
        mayNot("draw", "");
        mayNot("draw ", "draw 5");
        mayNot("draw 5 ", "6");
        mayNot("draw 5 ", "wear 6");
        FeltHouse x = new FeltHouse();
        Check.told(x, "beast 1,draw 0,beast 999");
        Edge.within("cap of the first", x.cap(0), 1);
        Edge.within("cap of the second", x.cap(1), 999);
        Edge.within("draw", x.count(6), 0);
        Check.told(x, "draw 99");
        Edge.within("draw again", x.count(6), 99);
    }

    /** Each word of the text, with a letter too few, too many, or another one. */
    private static void otherWords() {
        Edge.says("Terms", "another WORD");
        String[] words = {"part", "pole", "band", "stone", "felt", "flap", "rope", "camp", "beast", "draw"};
        for (String word : words) {
            String rest = word.equals("camp") || word.equals("beast") || word.equals("draw") ? " 1" : " 1 1";
            may(word + rest, 1);
            for (String wrong : neighbours(word)) {
                mayNot("", wrong + rest);
            }
        }
        may("pole 1 1 weight 1 wear 1", 1);
        for (String wrong : neighbours("weight")) {
            mayNot("pole 1 1 ", wrong + " 1");
        }
        for (String wrong : neighbours("wear")) {
            mayNot("pole 1 1 ", wrong + " 1");
        }
        may("camp 1 grass 1", 1);
        for (String wrong : neighbours("grass")) {
            mayNot("camp 1 ", wrong + " 1");
        }
        mayNot("", "weight 1");
        mayNot("", "wear 1");
        mayNot("", "grass 1");
        mayNot("", "house 1");
    }

    private static String[] neighbours(String word) {
        int last = word.length() - 1;
        return new String[] {word.substring(1), word.substring(0, last), word + "s", "s" + word,
            "z" + word.substring(1), word.substring(0, last) + "z", word.substring(0, 1) + "z" + word.substring(2)};
    }

    private static void endsTooEarly() {
        Edge.says("Terms", "or how many bytes there are if it ends too early");
        mayNot("", "");
        mayNot(" ", "");
        mayNot(" ".repeat(120), "");
        mayNot("draw", "");
        mayNot("draw ", "");
        mayNot("draw 9,", "");
        mayNot("draw 9, ", "");
        mayNot("pole 1 1 weight", "");
        mayNot("pole 1 1 wear  ", "");
        mayNot("camp 1 grass ", "");
        mayNot(" ".repeat(116) + "draw", "");
        mayNot(" ".repeat(113) + "draw 9,", "");
        may("draw 9", 1);
        may("draw 9 ", 1);
        may(" ".repeat(114) + "draw 9", 1);
    }

    private static FeltHouse withParts(int n) {
        FeltHouse x = new FeltHouse();
        for (int p = 0; p < n; p++) {
            x.part(0, 0, 1, 0);
        }
        return x;
    }

    private static void twentyFirstPart() {
        Edge.says("Terms", "the name of a KIND for a 21st PART");
        for (String kind : KINDS) {
            Edge.within(kind + " as a 20th", Check.told(withParts(19), kind + " 0 1"), 1);
            Edge.past(kind + " as a 21st", Check.told(withParts(20), kind + " 0 1"), -1);
            Edge.past(kind + " as a 21st, behind a 20th", Check.told(withParts(19), "pole 0 1, " + kind + " 0 1"), -11);
        }
        Edge.past("a 21st ahead of what is wrong in it", Check.told(withParts(20), "pole 8 0"), -1);
        Edge.past("a fault ahead of a 21st", Check.told(withParts(20), "draw 100,pole 0 1"), -6);
        Edge.within("other items with 20 parts", Check.told(withParts(20), "draw 1,camp 1,beast 1"), 3);
        FeltHouse x = withParts(20);
        x.want(0, false);
        Edge.past("a wanting one makes no room", Check.told(x, "pole 0 1"), -1);
        x = withParts(5);
        Edge.within("15 at once", Check.told(x, "pole0 1" + ",pole0 1".repeat(14)), 15);
        Edge.within("20 parts", x.count(0), 20);
        x = withParts(6);
        Edge.past("the last of 15 is the 21st", Check.told(x, "pole0 1" + ",pole0 1".repeat(14)), -113);
        Edge.past("none came", x.count(0), 6);
    }

    private static FeltHouse withCampsAndBeasts(int n) {
        FeltHouse x = new FeltHouse();
        for (int i = 0; i < n; i++) {
            x.camp(0);
            x.beast(1);
        }
        return x;
    }

    private static void seventhCampAndBeast() {
        Edge.says("Terms", "camp for a 7th, beast for a 7th: its own");
        Edge.within("a 6th camp", Check.told(withCampsAndBeasts(5), "camp 1"), 1);
        Edge.past("a 7th camp", Check.told(withCampsAndBeasts(6), "camp 1"), -1);
        Edge.past("a 7th behind a 6th", Check.told(withCampsAndBeasts(5), "camp 1, camp 1"), -9);
        Edge.past("a 7th ahead of what is wrong in it", Check.told(withCampsAndBeasts(6), "camp 100"), -1);
        Edge.within("a 6th beast", Check.told(withCampsAndBeasts(5), "beast 1"), 1);
        Edge.past("a 7th beast", Check.told(withCampsAndBeasts(6), "beast 1"), -1);
        Edge.past("a 7th behind a 6th", Check.told(withCampsAndBeasts(5), "beast 1, beast 1"), -10);
        Edge.past("a 7th ahead of what is wrong in it", Check.told(withCampsAndBeasts(6), "beast 0"), -1);
        Edge.within("six of each at once", told("camp1,camp1,camp1,camp1,camp1,camp1,beast1,beast1,beast1,beast1,beast1,beast1"), 12);
        Edge.within("other items with six", Check.told(withCampsAndBeasts(6), "draw 1,pole 0 1"), 2);
    }

    private static void house() {
        Edge.says("Promise 31", "and empty then: how many ITEMS");
        FeltHouse x = new FeltHouse();
        Edge.within("two", Check.told(x, "draw 5,pole 0 1"), 2);
        Edge.within("empty", x.count(4), 0);
        Edge.past("an empty tape", x.house(), -1);
        Edge.within("room for 120", Check.told(x, " ".repeat(114) + "draw 6"), 1);
        Edge.within("empty again", x.wipe(), 0);

        Edge.says("Promise 31", "-1 less its place");
        Edge.within("place 0", told("x"), -1);
        Edge.within("place 119", told(" ".repeat(119) + "x"), -120);
        Edge.within("place 120", told(" ".repeat(120)), -121);
        Edge.past("no fault", told("draw 1"), 1);

        lastOnesTold();
        Edge.says("Promise 31", "ITEMS come to what there is");
        x = withParts(2);
        Check.told(x, "pole 3 4,camp 9,beast 8");
        Edge.within("behind what there was", x.of(2, 1), 3);
        Edge.within("what there was", x.of(1, 2), 1);
        Edge.past("no more", x.of(3, 0), Check.BEYOND);
    }

    private static void lastOnesTold() {
        Edge.says("Promise 31", "whose ITEMS come to what there is");
        FeltHouse x = withParts(19);
        Check.told(x, "rope 7 99 weight 88 wear 77");
        long[] due = {6, 7, 99, 88, 77, 1};
        for (int what = 0; what < 6; what++) {
            Edge.within("the 20th part, what " + what, x.of(19, what), due[what]);
            Edge.past("the 19th part, what " + what, x.of(18, what), what == 2 || what == 5 ? 1 : 0);
        }
        x = withCampsAndBeasts(4);
        Check.told(x, "camp 98 grass 1 2 3 4 5 6 7 8 9 10 11 12,camp 99 grass 21 22 23 24 25 26 27 28 29 30 31 32,beast 7,beast 8");
        for (int month = 0; month < 12; month++) {
            Edge.past("the 4th camp, month " + month, x.campOf(3, month), 0);
            Edge.within("the 5th camp, month " + month, x.campOf(4, month), 1 + month);
            Edge.within("the 6th camp, month " + month, x.campOf(5, month), 21 + month);
        }
        Edge.past("far of the 4th", x.campOf(3, 12), 0);
        Edge.within("far of the 5th", x.campOf(4, 12), 98);
        Edge.within("far of the 6th", x.campOf(5, 12), 99);
        Edge.past("cap of the 4th", x.cap(3), 1);
        Edge.within("cap of the 5th", x.cap(4), 7);
        Edge.within("cap of the 6th", x.cap(5), 8);
    }

    private static void made(FeltHouse x, String text) {
        x.part(1, 2, 30, 4);
        x.part(4, 5, 60, 7);
        x.want(1, false);
        x.camp(8);
        x.grass(0, 9, 10);
        x.beast(11);
        x.draw(12);
        x.image();
        x.draw(13);
        x.sheet(0, 8, 2);
        x.write(0, 1, 14);
        Check.feed(x, text);
    }

    private static void nothingChanges() {
        Edge.says("Promise 31", "(nothing changes but that THE TAPE is empty; no finding)");
        String[] sound = {"pole 0 1 weight 2 wear 3", "camp 1 grass 5 6", "beast 7", "draw 8", "stone 1 1,camp 2,beast 3,draw 4"};
        for (String text : sound) {
            for (String fault : new String[] {",", " x", ",pole 8 1", ",pole 0 1 weight 100", ",camp 1 grass 1000"}) {
                Twin.same(text + fault, x -> made(x, text + fault), FeltHouse::house, FeltHouse::wipe);
            }
            FeltHouse x = new FeltHouse();
            made(x, text);
            Edge.within(text + ", which has no fault", x.house(), text.startsWith("stone") ? 4 : 1);
            Edge.within("no finding", x.status(-1), 0);
        }
        Twin.same("an empty tape", x -> made(x, ""), FeltHouse::house, FeltHouse::wipe);
    }
}
