/** Promises 23 to 28: camps, grass, herding, the best year and its moves. */
public final class CampsTest {
    public static void main(String[] args) {
        camp();
        grass();
        herd();
        yearFindings();
        stays();
        rowsByStays();
        movesAlone();
        ties();
        roundTheYear();
        Check.end();
    }

    private static void camp() {
        FeltHouse x = new FeltHouse();
        Check.due("far -1", x.camp(-1), Check.BEYOND);
        Check.due("far 100", x.camp(100), Check.BEYOND);
        for (int c = 0; c < 6; c++) {
            Check.due("camp " + c, x.camp(c == 0 ? 0 : 94 + c), c);
        }
        Check.due("a 7th", x.camp(0), Check.FULL);
        Check.due("a wrong 7th is BEYOND first", x.camp(100), Check.BEYOND);
        Check.due("its far", x.campOf(5, 12), 99);
        Check.due("its grass", x.campOf(5, 11), 0);
        Check.due("six camps", x.count(3), 6);
    }

    private static void grass() {
        FeltHouse x = new FeltHouse();
        Check.due("no camp", x.grass(0, 0, 0), Check.BEYOND);
        x.camp(3);
        x.camp(4);
        Check.due("grass(0, 11, 999)", x.grass(0, 11, 999), 0);
        Check.due("grass(0, 11, 0)", x.grass(0, 11, 0), 999);
        Check.due("grass(0, 11, 5)", x.grass(0, 11, 5), 0);
        Check.due("grass(1, 0, 7)", x.grass(1, 0, 7), 0);
        Check.due("month -1", x.grass(0, -1, 0), Check.BEYOND);
        Check.due("month 12", x.grass(0, 12, 0), Check.BEYOND);
        Check.due("grass -1", x.grass(0, 0, -1), Check.BEYOND);
        Check.due("grass 1000", x.grass(0, 0, 1000), Check.BEYOND);
        Check.due("camp 2", x.grass(2, 0, 0), Check.BEYOND);
        Check.due("camp -1", x.grass(-1, 0, 0), Check.BEYOND);
        Check.due("campOf(0, 11)", x.campOf(0, 11), 5);
        Check.due("campOf(1, 0)", x.campOf(1, 0), 7);
        Check.due("campOf(0, 0)", x.campOf(0, 0), 0);
        Check.due("campOf(0, 12)", x.campOf(0, 12), 3);
        Check.due("campOf(1, 12)", x.campOf(1, 12), 4);
        Check.due("campOf(0, 13)", x.campOf(0, 13), Check.BEYOND);
        Check.due("campOf(0, -1)", x.campOf(0, -1), Check.BEYOND);
        Check.due("campOf(2, 0)", x.campOf(2, 0), Check.BEYOND);
        Check.due("campOf(-1, 0)", x.campOf(-1, 0), Check.BEYOND);
    }

    private static void herd() {
        FeltHouse x = new FeltHouse();
        int[] most = {999, 99, 999};
        int[] first = {100, 2, 5};
        for (int what = 0; what < 3; what++) {
            Check.due("herd(" + what + ") becomes its most", x.herd(what, most[what]), first[what]);
            Check.due("herd(" + what + ") above", x.herd(what, most[what] + 1), Check.BEYOND);
            Check.due("herd(" + what + ") below", x.herd(what, -1), Check.BEYOND);
            Check.due("herd(" + what + ") becomes 0", x.herd(what, 0), most[what]);
        }
        Check.due("what -1", x.herd(-1, 0), Check.BEYOND);
        Check.due("what 3", x.herd(3, 0), Check.BEYOND);
    }

    private static void yearFindings() {
        FeltHouse x = new FeltHouse();
        Check.due("no camps", x.year(0, 1, 0), Check.NONE);
        Check.due("no camps, moves", x.moves(0, 1), Check.NONE);
        Check.due("BEYOND ahead of NONE", x.year(12, 1, 0), Check.BEYOND);
        Check.due("BEYOND ahead of NONE, moves", x.moves(12, 1), Check.BEYOND);
        x.camp(0);
        Check.due("month -1", x.year(-1, 1, 0), Check.BEYOND);
        Check.due("month 12", x.year(12, 1, 0), Check.BEYOND);
        Check.due("n 0", x.year(0, 0, -1), Check.BEYOND);
        Check.due("n 25", x.year(0, 25, 0), Check.BEYOND);
        Check.due("what -2", x.year(0, 5, -2), Check.BEYOND);
        Check.due("what 5 of 5", x.year(0, 5, 5), Check.BEYOND);
        Check.due("what 4 of 5", x.year(0, 5, 4), 0);
        Check.due("moves month -1", x.moves(-1, 1), Check.BEYOND);
        Check.due("moves n 0", x.moves(0, 0), Check.BEYOND);
        Check.due("moves n 25", x.moves(0, 25), Check.BEYOND);
        Check.due("moves of one camp", x.moves(0, 24), 0);
    }

    private static void stays() {
        FeltHouse x = new FeltHouse();
        x.camp(0);
        for (int month = 0; month < 12; month++) {
            x.grass(0, month, 51);
        }
        Check.due("a month", x.year(0, 1, -1), 49);
        Check.due("a second one has half", x.year(0, 2, -1), 49 + 75);
        Check.due("a third one has nothing", x.year(0, 3, -1), 49 + 75 + 100);
        Check.due("a fourth one too", x.year(0, 4, -1), 49 + 75 + 200);
        x.herd(0, 25);
        Check.due("no month costs less than 0", x.year(0, 3, -1), 25);
        x.herd(0, 100);
        x.camp(3);
        Check.due("two moves are dearer than the third month", x.year(0, 3, -1), 49 + 11 + 100 + 11 + 49);
        Check.due("there and back", x.moves(0, 3), 2);
    }

    private static FeltHouse twoCamps(int pack, int... grass) {
        FeltHouse x = new FeltHouse();
        x.herd(2, pack);
        for (int c = 0; c < grass.length; c++) {
            x.camp(7);
            for (int month = 0; month < 12; month++) {
                x.grass(c, month, grass[c]);
            }
        }
        return x;
    }

    private static void rowsByStays() {
        FeltHouse x = twoCamps(20, 100, 60);
        int[] row = {0, 0, 1, 0};
        Check.due("there and back behind two months", x.year(0, 4, -1), 130);
        for (int i = 0; i < 4; i++) {
            Check.due("camp " + i + " of four", x.year(0, 4, i), row[i]);
        }
        x = twoCamps(51, 100, 100);
        int[] pairs = {0, 0, 1, 1, 0, 0};
        Check.due("two months each", x.year(0, 6, -1), 252);
        for (int i = 0; i < 6; i++) {
            Check.due("camp " + i + " of six", x.year(0, 6, i), pairs[i]);
        }
    }

    private static void movesAlone() {
        Check.due("moves of two months each", twoCamps(51, 100, 100).moves(0, 6), 2);
        Check.due("moves each month", twoCamps(49, 100, 100).moves(0, 6), 5);
        FeltHouse x = twoCamps(51, 100, 100);
        x.year(0, 24, -1);
        Check.due("moves of fewer months than were asked before", x.moves(0, 4), 1);
    }

    private static void ties() {
        FeltHouse x = new FeltHouse();
        x.herd(1, 0);
        x.herd(2, 0);
        for (int c = 0; c < 3; c++) {
            x.camp(10 * c);
        }
        for (int i = 0; i < 6; i++) {
            Check.due("all rows cost the same: camp " + i, x.year(0, 6, i), 0);
        }
        x.grass(1, 2, 10);
        x.grass(2, 2, 10);
        int[] row = {0, 0, 1, 0, 0, 0};
        for (int i = 0; i < 6; i++) {
            Check.due("the first row by camps: camp " + i, x.year(0, 6, i), row[i]);
        }
        Check.due("its moves", x.moves(0, 6), 2);
        Check.due("its cost", x.year(0, 6, -1), 590);
        x.herd(2, 10);
        Check.due("a move as dear as the grass", x.year(0, 6, -1), 600);
        Check.due("no move then, as 0 comes first", x.moves(0, 6), 0);
        Check.due("at it a month ahead", x.year(1, 5, -1), 495);
        Check.due("the first of two such camps", x.year(1, 5, 0), 1);
        Check.due("it is at camp 1 in one month alone", x.year(2, 1, 0), 1);
    }

    private static void roundTheYear() {
        FeltHouse x = new FeltHouse();
        x.camp(0);
        x.camp(1);
        x.grass(0, 11, 100);
        x.grass(1, 0, 100);
        Check.due("from month 11 on", x.year(11, 2, -1), 7);
        Check.due("camp in month 11", x.year(11, 2, 0), 0);
        Check.due("camp in month 0", x.year(11, 2, 1), 1);
        Check.due("one move", x.moves(11, 2), 1);
        x.herd(1, 99);
        Check.due("a dear road", x.year(11, 2, -1), 100);
        Check.due("it stays at the first", x.year(11, 2, 1), 0);
        Check.due("no move", x.moves(11, 2), 0);
    }
}
