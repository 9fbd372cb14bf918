/** Boundary sentences of promises 23 to 28, and those of section 2 on camps and years. */
public final class CampsEdgesTest {
    public static void main(String[] args) {
        camp();
        full();
        grass();
        campOf();
        herdAtFirst();
        herd();
        moveCosts();
        monthCosts();
        monthsOnEnd();
        roundTheYear();
        lengthOfAYear();
        noMoveAhead();
        sixCampsForTheLongest();
        bestYear();
        severalBest();
        yearFindings();
        movesOf();
        movesFindings();
        Edge.end();
    }

    /** Camps all of FAR 0, each with the same grass in every month. */
    private static FeltHouse camps(int... grass) {
        FeltHouse x = new FeltHouse();
        for (int c = 0; c < grass.length; c++) {
            x.camp(0);
            for (int month = 0; month < 12; month++) {
                x.grass(c, month, grass[c]);
            }
        }
        return x;
    }

    private static int costOf(FeltHouse x, int month, int... row) {
        x.sheet(0, 8, row.length);
        for (int i = 0; i < row.length; i++) {
            x.write(0, i, row[i]);
        }
        return x.costs(0, month);
    }

    private static int farOf(int far) {
        FeltHouse x = new FeltHouse();
        int c = x.camp(far);
        return c <= Check.BEYOND ? c : x.campOf(c, 12);
    }

    private static void camp() {
        Edge.says("Terms", "a FAR: how far it is out (0 to 99)");
        Edge.range("far", 0, 99, CampsEdgesTest::farOf, far -> far);
        Edge.says("Promise 23", "BEYOND: far");
        FeltHouse x = new FeltHouse();
        Edge.past("far -1", x.camp(-1), Check.BEYOND);
        Edge.within("far 0", x.camp(0), 0);
        Edge.past("far 100", x.camp(100), Check.BEYOND);
        Edge.within("far 99", x.camp(99), 1);
        Edge.within("how many came", x.count(3), 2);
    }

    private static void full() {
        Edge.says("Terms", "CAMPS 0, 1, .. (at most 6)");
        FeltHouse x = new FeltHouse();
        for (int c = 0; c < 6; c++) {
            Edge.within("camp " + c, x.camp(c), c);
        }
        Edge.past("a 7th", x.camp(0), Check.FULL);
        Edge.past("how many", x.count(3), 6);

        Edge.says("Promise 23", "A new CAMP without GRASS: its number");
        x = new FeltHouse();
        x.image();
        x.camp(1);
        for (int month = 0; month < 12; month++) {
            x.grass(0, month, 9);
        }
        Edge.past("grass that was given", x.campOf(0, 11), 9);
        x.undo();
        x.camp(1);
        for (int month = 0; month < 12; month++) {
            Edge.within("a new one in its place, month " + month, x.campOf(0, month), 0);
        }

        Edge.says("Promise 23", "FULL");
        x = new FeltHouse();
        for (int c = 0; c < 5; c++) {
            x.camp(0);
        }
        x.image();
        Edge.within("the 6th", x.camp(7), 5);
        Edge.past("the 7th", x.camp(7), Check.FULL);
        x.undo();
        Edge.within("a 6th where it was undone", x.camp(8), 5);
        Edge.within("its far", x.campOf(5, 12), 8);
    }

    private static int grassOf(int camp, int month, int v) {
        FeltHouse x = camps(1, 1);
        int was = x.grass(camp, month, v);
        return was <= Check.BEYOND ? was : x.campOf(camp, month);
    }

    private static void grass() {
        Edge.says("Terms", "each with GRASS (0 to 999) by MONTH (0 to 11)");
        Edge.range("grass", 0, 999, v -> grassOf(1, 0, v), v -> v);
        Edge.range("month", 0, 11, month -> grassOf(1, month, 5), month -> 5);
        Edge.says("Promise 24", "GRASS of a CAMP in a MONTH becomes v: what it was. BEYOND");
        FeltHouse none = new FeltHouse();
        Edge.past("camp 0 of none", none.grass(0, 0, 1), Check.BEYOND);
        Edge.range("camp", 0, 1, camp -> grassOf(camp, 0, 5), camp -> 5);
        FeltHouse six = camps(10, 11, 12, 13, 14, 15);
        Edge.range("camp of six", 0, 5, camp -> six.grass(camp, 11, 10 + camp), camp -> 10 + camp);
        Edge.within("month 0 of the next is as it was", six.campOf(1, 0), 11);
    }

    private static void campOf() {
        Edge.says("Promise 25", "what 0 to 11 GRASS in that MONTH, 12 FAR. BEYOND");
        FeltHouse x = new FeltHouse();
        Edge.past("camp 0 of none", x.campOf(0, 0), Check.BEYOND);
        for (int c = 0; c < 6; c++) {
            x.camp(60 + c);
            for (int month = 0; month < 12; month++) {
                x.grass(c, month, 100 * c + month);
            }
        }
        Edge.range("what of the first", 0, 12, what -> x.campOf(0, what), what -> what == 12 ? 60 : what);
        Edge.range("what of the last", 0, 12, what -> x.campOf(5, what), what -> what == 12 ? 65 : 500 + what);
        Edge.range("camp", 0, 5, c -> x.campOf(c, 0), c -> 100 * c);
    }

    private static int herdOf(int what, int v) {
        FeltHouse x = new FeltHouse();
        int was = x.herd(what, v);
        return was <= Check.BEYOND ? was : x.herd(what, 0);
    }

    private static void herdAtFirst() {
        String[] words = {"HERD (0 to 999; 100 at first)", "ROAD (0 to 99; 2 at first)", "PACK (0 to 999; 5 at first)"};
        int[] most = {999, 99, 999};
        int[] first = {100, 2, 5};
        for (int what = 0; what < 3; what++) {
            int asked = what;
            Edge.says("Terms", words[what]);
            FeltHouse x = new FeltHouse();
            Edge.within("at first", x.herd(what, 1), first[what]);
            Edge.past("then", x.herd(what, 0), 1);
            Edge.range("v", 0, most[what], v -> herdOf(asked, v), v -> v);
        }
    }

    private static void herd() {
        Edge.says("Promise 26", "What 0 HERD, 1 ROAD, 2 PACK becomes v: what it was. BEYOND");
        Edge.range("what", 0, 2, what -> herdOf(what, 7), what -> 7);
        Edge.past("road 100, which a pack may be", herdOf(1, 100), Check.BEYOND);
        FeltHouse x = new FeltHouse();
        for (int what = 0; what < 3; what++) {
            x.herd(what, what + 1);
        }
        for (int what = 0; what < 3; what++) {
            Edge.within("each is its own: " + what, x.herd(what, 0), what + 1);
        }
    }

    private static void moveCosts() {
        Edge.says("Terms", "a MOVE between two costs ROAD times the difference of their FAR, and PACK");
        FeltHouse x = new FeltHouse();
        x.camp(0);
        x.camp(99);
        x.camp(99);
        x.herd(0, 0);
        Edge.within("out", costOf(x, 0, 0, 1), 2 * 99 + 5);
        Edge.within("back", costOf(x, 0, 1, 0), 2 * 99 + 5);
        Edge.within("between two that are as far", costOf(x, 0, 1, 2), 5);
        Edge.past("a stay is no move", costOf(x, 0, 1, 1), 0);
        x.herd(1, 99);
        x.herd(2, 999);
        Edge.within("the most", costOf(x, 0, 0, 1), 99 * 99 + 999);
        x.herd(1, 0);
        x.herd(2, 0);
        Edge.past("the least", costOf(x, 0, 0, 1), 0);
    }

    private static void monthCosts() {
        Edge.says("Terms", "A MONTH at a CAMP costs by how much HERD is more than what there is to eat");
        Edge.within("one too few", camps(99).year(0, 1, -1), 1);
        Edge.past("enough", camps(100).year(0, 1, -1), 0);
        Edge.past("one too many costs no less than nothing", camps(101).year(0, 1, -1), 0);
        Edge.past("the most grass", camps(999).year(0, 1, -1), 0);
        Edge.within("no grass", camps(0).year(0, 1, -1), 100);
        FeltHouse x = camps(0);
        x.herd(0, 999);
        Edge.within("the most herd, the longest", x.year(0, 24, -1), 24 * 999);
        x.herd(0, 0);
        Edge.past("no herd", x.year(0, 24, -1), 0);
        Edge.past("one too many, told by a sheet", costOf(camps(101), 0, 0), 0);
    }

    private static void monthsOnEnd() {
        Edge.says("Terms", "a half (cut) if it is the second MONTH on end there");
        Edge.within("the second of 3: cut", camps(3).year(0, 2, -1), 97 + 99);
        Edge.within("the second of 4", camps(4).year(0, 2, -1), 96 + 98);
        Edge.past("a second that isn't on end", costOf(camps(4, 0), 0, 0, 1, 0), 96 + 5 + 100 + 5 + 96);
        Edge.past("another one's first", costOf(camps(4, 4), 0, 0, 1), 96 + 5 + 96);

        Edge.says("Terms", "nothing if it is the third or a later one");
        Edge.past("the second", camps(100).year(0, 2, -1), 50);
        Edge.within("the third", camps(100).year(0, 3, -1), 50 + 100);
        Edge.within("the fourth", camps(100).year(0, 4, -1), 50 + 200);
        Edge.within("the 24th", camps(100).year(0, 24, -1), 50 + 2200);
        Edge.within("the third, told by a sheet", costOf(camps(100), 0, 0, 0, 0), 150);
        Edge.within("the fourth, told by a sheet", costOf(camps(100), 0, 0, 0, 0, 0), 250);
        Edge.past("a third that isn't on end", costOf(camps(100, 0), 0, 0, 0, 1, 0), 50 + 5 + 100 + 5);
        Edge.past("its second, anew", costOf(camps(100, 0), 0, 0, 0, 1, 0, 0), 50 + 5 + 100 + 5 + 50);
    }

    private static void roundTheYear() {
        Edge.says("Terms", "MONTHS go round");
        FeltHouse x = camps(0, 0);
        x.grass(0, 11, 10);
        x.grass(0, 0, 100);
        Edge.within("month 11", x.year(11, 1, -1), 90);
        Edge.past("month 0 behind it, on end", costOf(x, 11, 0, 0), 90 + 50);
        Edge.past("month 0 behind it, first", costOf(x, 11, 1, 0), 100 + 5);
        Edge.within("month 11 as the second from 10 on", costOf(x, 10, 1, 0), 100 + 5 + 90);
        Edge.past("month 0 again as the 13th", costOf(x, 0, 0, 1, 1, 1, 1, 1, 1, 1, 1, 1, 1, 1, 0), 5 + 1100 + 5);
        x.herd(2, 0);
        Edge.past("the best of 13", x.year(0, 13, -1), 1100);
        // Camp 0 in month 11 halves what it has in month 0, so the row is elsewhere ahead of it.
        Edge.past("the best of 24 has month 0 twice, month 11 at its end", x.year(0, 24, -1), 2400 - 200 - 10);
        Edge.within("the 12th of 13 is elsewhere", x.year(0, 13, 11), 1);
        Edge.past("the 13th is there", x.year(0, 13, 12), 0);
    }

    private static void lengthOfAYear() {
        Edge.says("Terms", "n MONTHS (1 to 24");
        Edge.range("n", 1, 24, n -> camps(0).year(3, n, -1), n -> 100 * n);
        Edge.range("n of moves", 1, 24, n -> camps(100, 100).moves(3, n), n -> n - 1);
        Edge.range("n, its first camp", 1, 24, n -> camps(0).year(0, n, 0), n -> 0);
    }

    private static void noMoveAhead() {
        Edge.says("Terms", "each at a CAMP, the first at any (no MOVE ahead of it)");
        FeltHouse x = new FeltHouse();
        for (int c = 0; c < 6; c++) {
            x.camp(c == 5 ? 99 : 0);
        }
        x.herd(2, 999);
        x.grass(5, 0, 1);
        Edge.within("the last camp at once", x.year(0, 1, 0), 5);
        Edge.within("its cost", x.year(0, 1, -1), 99);
        Edge.within("told by a sheet", costOf(x, 0, 5), 99);
        Edge.past("a second one elsewhere is moved to", costOf(x, 0, 5, 0), 99 + 198 + 999 + 100);
    }

    /** Of six camps each has what the herd eats in every sixth month, so the row goes round them. */
    private static void sixCampsForTheLongest() {
        Edge.says("Terms", "A YEAR: from a MONTH on, n MONTHS (1 to 24; MONTHS go round), each at a CAMP");
        FeltHouse x = camps(0, 0, 0, 0, 0, 0);
        for (int month = 0; month < 12; month++) {
            x.grass(month % 6, month, 100);
        }
        x.herd(2, 0);
        Edge.within("24 months", x.year(7, 24, -1), 0);
        for (int i = 0; i < 24; i++) {
            Edge.within("camp in month " + i + " of 24", x.year(7, 24, i), (7 + i) % 6);
        }
        Edge.within("its moves", x.moves(7, 24), 23);
        Edge.past("a 25th month", x.year(7, 25, -1), Check.BEYOND);
        x.herd(2, 1);
        Edge.past("with a pack of 1 each move costs", x.year(7, 24, -1), 23);
        FeltHouse bare = camps(0, 0, 0, 0, 0, 0);
        Edge.within("six alike, the cost of 24", bare.year(0, 24, -1), 2400);
        Edge.within("six alike: no moves", bare.moves(0, 24), 0);
        Edge.within("six alike: it ends at the first", bare.year(0, 24, 23), 0);
        Edge.says("Promise 27", "what -1 its cost, i the CAMP in its i-th MONTH");
        Edge.past("-1", x.year(4, 2, -1), 1);
        Edge.within("0", x.year(4, 2, 0), 4);
        Edge.within("1", x.year(4, 2, 1), 5);
        Edge.past("2", x.year(4, 2, 2), Check.BEYOND);
    }

    /** Two camps; the second has 100 in month 1: a move to it costs PACK, a stay ahead at it a half. */
    private static FeltHouse between(int pack) {
        FeltHouse x = camps(0, 0);
        x.grass(1, 1, 100);
        x.herd(2, pack);
        return x;
    }

    private static void bestYear() {
        Edge.says("Terms", "BEST YEAR: the least cost of all");
        Edge.within("a move of 49", between(49).year(0, 2, -1), 149);
        Edge.within("it is moved", between(49).year(0, 2, 0), 0);
        Edge.past("a move of 51", between(51).year(0, 2, -1), 150);
        Edge.past("it stays at the second", between(51).year(0, 2, 0), 1);
        FeltHouse x = camps(10, 20, 30, 40, 50, 60);
        Edge.within("the last of six", x.year(0, 1, 0), 5);
        x.grass(5, 0, 50);
        Edge.past("as good as the last but one", x.year(0, 1, 0), 4);
        x = camps(100, 100);
        x.herd(2, 50);
        Edge.within("a move as dear as a second month's half", x.year(0, 2, -1), 50);
        x.herd(2, 49);
        Edge.past("a move 1 cheaper", x.year(0, 2, -1), 49);
    }

    private static void severalBest() {
        Edge.says("Terms", "of several the first by rows of CAMPS");
        Edge.within("a move of 50 and a stay cost the same", between(50).year(0, 2, -1), 150);
        Edge.within("0 1 is ahead of 1 1", between(50).year(0, 2, 0), 0);
        Edge.past("by 1 dearer it isn't", between(51).year(0, 2, 0), 1);
        FeltHouse x = camps(100, 100);
        x.herd(2, 50);
        Edge.within("0 0 is ahead of 0 1", x.moves(0, 2), 0);
        x.herd(2, 49);
        Edge.past("by 1 cheaper it isn't", x.moves(0, 2), 1);
        x = camps(7, 7, 7, 7, 7, 7);
        Edge.within("six alike", x.year(0, 1, 0), 0);
        x.grass(0, 0, 6);
        Edge.past("five alike", x.year(0, 1, 0), 1);
        x = camps(0, 0, 0);
        x.herd(2, 0);
        x.grass(1, 1, 9);
        x.grass(2, 1, 9);
        long[] row = {0, 1, 0, 0};
        for (int i = 0; i < 4; i++) {
            Edge.within("the first of all rows, month " + i, x.year(0, 4, i), row[i]);
        }
    }

    private static void yearFindings() {
        Edge.says("Promise 27", "BEYOND: month, n, what (-1 to n less 1)");
        FeltHouse x = camps(0);
        Edge.range("month", 0, 11, month -> x.year(month, 1, -1), month -> 100);
        Edge.range("n", 1, 24, n -> x.year(0, n, 0), n -> 0);
        FeltHouse y = camps(0);
        for (int n = 1; n <= 24; n++) {
            Edge.within("what -1 of " + n, y.year(0, n, -1), 100 * n);
            Edge.within("what " + (n - 1) + " of " + n, y.year(0, n, n - 1), 0);
            Edge.past("what -2 of " + n, y.year(0, n, -2), Check.BEYOND);
            Edge.past("what " + n + " of " + n, y.year(0, n, n), Check.BEYOND);
        }
        Edge.past("what most", y.year(0, 24, Check.MOST), Check.BEYOND);
        Edge.past("what least", y.year(0, 24, Check.LEAST), Check.BEYOND);
        Edge.past("n 0 has no what but -1", y.year(0, 0, -1), Check.BEYOND);

        Edge.says("Promise 27", "NONE: there are no CAMPS");
        FeltHouse none = new FeltHouse();
        Edge.within("no camp, its cost", none.year(0, 1, -1), Check.NONE);
        Edge.within("no camp, a camp", none.year(11, 24, 23), Check.NONE);
        none.camp(0);
        Edge.past("one camp, its cost", none.year(0, 1, -1), 100);
        Edge.past("one camp", none.year(11, 24, 23), 0);
    }

    private static void movesOf() {
        Edge.says("Promise 28", "How many MOVES the BEST YEAR has");
        FeltHouse x = camps(100, 100);
        Edge.past("one month", x.moves(0, 1), 0);
        Edge.within("two months", x.moves(0, 2), 1);
        Edge.within("24 months", x.moves(0, 24), 23);
        x.herd(2, 51);
        Edge.within("two months at each", x.moves(0, 24), 11);
        x.herd(2, 999);
        Edge.past("too dear ones", x.moves(0, 24), 0);
        Edge.past("one camp", camps(100).moves(0, 24), 0);
    }

    private static void movesFindings() {
        Edge.says("Promise 28", "BEYOND. NONE");
        FeltHouse x = camps(0);
        Edge.range("month", 0, 11, month -> x.moves(month, 1), month -> 0);
        Edge.range("n", 1, 24, n -> x.moves(0, n), n -> 0);
        FeltHouse none = new FeltHouse();
        Edge.past("no camp", none.moves(0, 1), Check.NONE);
        none.camp(0);
        Edge.within("one camp", none.moves(0, 1), 0);
    }
}
