/** Promises 51 to 57: acts, undoing, images. */
public final class ActsTest {
    private static final String TEXT = "table seats 6 slack 0 saw 2 quarrel 50;person a at 0;person b at 3;person c at 5;"
        + "known a b years 2 plain;known b c years 7 ringed;known a c years 9 hinged";
    private static final String NO_C = "table seats 6 slack 0 saw 2 quarrel 50;person a at 0;person b at 3;person c at 5;known b a years 5 plain";

    public static void main(String[] args) {
        noTable();
        years();
        quarrels();
        sits();
        knows();
        undoing();
        sixteen();
        images();
        Check.end();
    }

    private static void noTable() {
        SpoonTable x = new SpoonTable();
        Check.refused(x, "year", x.year(), 1);
        Check.refused(x, "quarrel", x.quarrel(0), 1);
        Check.refused(x, "sit", x.sit(0, 0), 1);
        Check.refused(x, "know", x.know(0, 1), 1);
        Check.due("undo", x.undo(), false);
        Check.due("trouble", x.trouble(), 6);
        Check.refused(x, "image", x.image(), 1);
        Check.due("back", x.back(0), false);
        Check.due("trouble", x.trouble(), 1);
    }

    private static void years() {
        SpoonTable x = Check.laid(TEXT);
        Check.due("year: a b feed", x.year(), 2);
        Check.due("trouble", x.trouble(), 0);
        int[] known = {3, 8, 10};
        int[] handle = {3, 1, 10};
        for (int k = 0; k < 3; k++) {
            Check.due("years of " + k, x.pair(k, 2), known[k]);
            Check.due("handle of " + k, x.pair(k, 3), handle[k]);
        }
        Check.due("gone by", x.size(9), 1);
        x.sit(1, 4);
        Check.due("year: each two could, b c slop least", x.year(), 2);
        Check.due("match", x.match(), 2);
        Check.due("matches", x.matches(), 4);
        for (int i = 2; i < 999; i++) {
            x.year();
        }
        Check.due("999", x.size(9), 999);
        Check.refused(x, "the 1000th", x.year(), 3);
        Check.due("999 still", x.size(9), 999);
        Check.due("years", x.pair(0, 2), 1001);
        x.undo();
        Check.due("one is free again", x.year() >= 0, true);
    }

    private static void quarrels() {
        SpoonTable x = Check.laid(TEXT);
        Check.due("quarrel(2)", x.quarrel(2), 7);
        Check.due("trouble", x.trouble(), 0);
        Check.due("sawn", x.pair(2, 5), 2);
        Check.due("years", x.pair(2, 2), 9);
        Check.due("quarrel(0)", x.quarrel(0), 0);
        Check.refused(x, "quarrel(0) of 0", x.quarrel(0), 5);
        Check.due("sawn", x.pair(0, 5), 2);
        Check.refused(x, "quarrel(1): ringed", x.quarrel(1), 5);
        Check.refused(x, "quarrel(3)", x.quarrel(3), 1);
        Check.refused(x, "quarrel(-1)", x.quarrel(-1), 1);
        Check.due("acts", x.size(10), 2);
        x.year();
        Check.due("1 a year on", x.pair(0, 3), 1);
        Check.due("all it has", x.quarrel(0), 0);
        Check.due("sawn", x.pair(0, 5), 3);
        x.year();
        Check.due("1 a year on again", x.pair(0, 3), 1);
    }

    private static void sits() {
        SpoonTable x = Check.laid(TEXT);
        Check.due("sit(1, 4)", x.sit(1, 4), 3);
        Check.due("trouble", x.trouble(), 0);
        Check.due("seat(1)", x.seat(1), 4);
        Check.due("sit(0, 3): free now", x.sit(0, 3), 0);
        Check.refused(x, "sit(0, 3): oneself", x.sit(0, 3), 5);
        Check.refused(x, "sit(0, 5): another", x.sit(0, 5), 5);
        Check.refused(x, "sit(0, 6)", x.sit(0, 6), 2);
        Check.refused(x, "sit(0, -1)", x.sit(0, -1), 2);
        Check.refused(x, "sit(3, 6)", x.sit(3, 6), 1);
        Check.refused(x, "sit(-1, 1)", x.sit(-1, 1), 1);
        Check.due("acts", x.size(10), 2);
        Check.due("far", x.pair(0, 7), 1);
    }

    private static void knows() {
        SpoonTable x = Check.laid(NO_C);
        Check.due("know(2, 0)", x.know(2, 0), 1);
        Check.due("trouble", x.trouble(), 0);
        int[] due = {2, 0, 0, 0, 0, 0, 0, 5};
        for (int what = 0; what < due.length; what++) {
            Check.due("pair(1, " + what + ")", x.pair(1, what), due[what]);
        }
        Check.refused(x, "know(0, 2)", x.know(0, 2), 5);
        Check.refused(x, "know(0, 1)", x.know(0, 1), 5);
        Check.refused(x, "know(1, 1)", x.know(1, 1), 1);
        Check.refused(x, "know(1, 3)", x.know(1, 3), 1);
        Check.refused(x, "know(-1, 1)", x.know(-1, 1), 1);
        Check.due("know(1, 2)", x.know(1, 2), 2);
        Check.due("pairs", x.size(6), 3);
        x.year();
        Check.due("a year on", x.pair(2, 3), 1);
        x.undo();
        x.undo();
        x.undo();
        Check.due("pairs", x.size(6), 1);
        Check.refused(x, "pair(1, 0)", x.pair(1, 0), 1);
        Check.due("strangers again", x.pairOf(0, 2), -2);
        Check.due("known anew", x.know(2, 1), 1);
        Check.due("the one", x.pair(1, 0), 2);
        Check.due("nothing sawn", x.pair(1, 5), 0);
    }

    private static void undoing() {
        SpoonTable x = Check.laid(NO_C);
        x.year();
        x.quarrel(0);
        x.sit(2, 1);
        x.know(0, 2);
        x.year();
        x.quarrel(1);
        Check.due("acts", x.size(10), 6);
        Check.due("undo quarrel", x.undo(), true);
        Check.due("trouble", x.trouble(), 0);
        Check.due("handle", x.pair(1, 3), 1);
        Check.due("undo year", x.undo(), true);
        Check.due("handle", x.pair(1, 3), 0);
        Check.due("handle", x.pair(0, 3), 4);
        Check.due("gone", x.size(9), 1);
        Check.due("undo know", x.undo(), true);
        Check.due("pairs", x.size(6), 1);
        Check.due("undo sit", x.undo(), true);
        Check.due("seat", x.seat(2), 5);
        Check.due("undo quarrel", x.undo(), true);
        Check.due("handle", x.pair(0, 3), 6);
        Check.due("sawn", x.pair(0, 5), 0);
        Check.due("undo year", x.undo(), true);
        Check.due("gone", x.size(9), 0);
        Check.due("acts", x.size(10), 0);
        Check.due("nothing to undo", x.undo(), false);
        Check.due("trouble", x.trouble(), 6);
        x.sit(2, 5);
        Check.due("what was refused is no act", x.size(10), 0);
    }

    private static void sixteen() {
        SpoonTable x = Check.laid(NO_C);
        for (int i = 1; i <= 20; i++) {
            x.year();
            Check.due("acts", x.size(10), Math.min(i, 16));
        }
        for (int i = 1; i <= 16; i++) {
            Check.due("undo", x.undo(), true);
            Check.due("gone", x.size(9), 20 - i);
        }
        Check.due("the first four stay", x.undo(), false);
        Check.due("gone", x.size(9), 4);
    }

    private static void images() {
        SpoonTable x = Check.laid(NO_C);
        Check.due("image()", x.image(), 0);
        x.year();
        x.sit(0, 2);
        Check.due("image()", x.image(), 1);
        x.know(0, 2);
        x.quarrel(0);
        Check.due("image()", x.image(), 2);
        Check.refused(x, "a fourth", x.image(), 3);
        Check.due("images", x.size(11), 3);
        Check.due("back(3)", x.back(3), false);
        Check.due("trouble", x.trouble(), 1);
        Check.due("back(-1)", x.back(-1), false);
        Check.due("trouble", x.trouble(), 1);
        Check.due("acts stay", x.size(10), 4);
        Check.due("back(0)", x.back(0), true);
        Check.due("trouble", x.trouble(), 0);
        Check.due("acts", x.size(10), 0);
        Check.due("undo", x.undo(), false);
        stands(x, 0, 0, 1, 5);
        Check.due("all images stay", x.size(11), 3);
        x.quarrel(0);
        x.sit(0, 1);
        Check.due("acts", x.size(10), 2);
        Check.due("back(2)", x.back(2), true);
        stands(x, 1, 2, 2, 4);
        Check.due("back(1)", x.back(1), true);
        stands(x, 1, 2, 1, 6);
        Check.due("back(0)", x.back(0), true);
        stands(x, 0, 0, 1, 5);
        Check.feed(x, "ab");
        Check.due("back(1)", x.back(1), true);
        Check.due("the tape is not of the table", x.size(12), 20);
        Check.lay(x, NO_C);
    }

    private static void stands(SpoonTable x, int gone, int seat, int pairs, int handle) {
        Check.due("gone", x.size(9), gone);
        Check.due("seat(0)", x.seat(0), seat);
        Check.due("pairs", x.size(6), pairs);
        Check.due("handle", x.pair(0, 3), handle);
    }
}
