/** Promises 37 to 43: unsure years. */
public final class FitsTest {
    private static final String HEAD = "table seats 6 slack 0 saw 2 quarrel 0;person a at 0;person b at 3;person c at 4;person d at 5;"
        + "known a b years 3 plain;known b c years 2 plain;known c d years 9 ringed;known a d years 10 hinged";

    public static void main(String[] args) {
        noTable();
        none();
        free();
        bound();
        impossible();
        ringed();
        firstOnly();
        Check.end();
    }

    private static void noTable() {
        SpoonTable x = new SpoonTable();
        Check.refused(x, "fits", x.fits(), 1);
        Check.refused(x, "fitAt", x.fitAt(0), 1);
        Check.refused(x, "could", x.could(), 1);
        Check.refused(x, "surely", x.surely(), 1);
        Check.refused(x, "ask", x.ask(), 1);
        Check.refused(x, "askLeaves", x.askLeaves(), 1);
        Check.refused(x, "judge", x.judge(), 1);
    }

    private static void fit(SpoonTable x, int could, int surely, int ask, int left, int judge, int... sets) {
        Check.due("fits", x.fits(), sets.length);
        for (int i = 0; i < sets.length; i++) {
            Check.due("fitAt(" + i + ")", x.fitAt(i), sets[i]);
        }
        Check.refused(x, "fitAt behind the last", x.fitAt(sets.length), 1);
        Check.refused(x, "fitAt(-1)", x.fitAt(-1), 1);
        Check.due("could", x.could(), could);
        Check.due("surely", x.surely(), surely);
        Check.due("ask", x.ask(), ask);
        Check.due("askLeaves", x.askLeaves(), left);
        Check.due("judge", x.judge(), judge);
        Check.due("trouble", x.trouble(), 0);
    }

    private static void none() {
        fit(Check.laid(HEAD), 0, 0, -2, -2, -2, 0);
        fit(Check.laid(HEAD + ";tried a b fed"), 0, 0, -2, -2, -2, 0);
        fit(Check.laid(HEAD + ";tried a b starved"), 0, 0, -2, -2, 0);
    }

    private static void free() {
        fit(Check.laid(HEAD + ";unsure b a 1;unsure b c 1"), 3, 0, 0, 2, -2, 0, 1, 2, 3);
    }

    private static void bound() {
        // a b fed only by 3 years, b c only by 1; of a d nothing was tried.
        String text = HEAD + ";unsure b a 1;unsure b c 1;unsure a d 7";
        fit(Check.laid(text + ";tried b c fed"), 7, 2, 0, 2, 0, 2, 3, 6, 7);
        fit(Check.laid(text + ";tried a b fed;tried c b fed"), 6, 2, 2, 1, 1, 2, 6);
        fit(Check.laid(text + ";tried a b starved;tried c b starved;tried d a starved"), 5, 5, 0, 1, 0, 5);
        fit(Check.laid(text + ";tried a d fed"), 3, 0, 0, 2, -2, 0, 1, 2, 3);
    }

    private static void impossible() {
        fit(Check.laid(HEAD + ";unsure b a 1;tried c d starved"), 0, 0, -2, -2, 0);
    }

    private static void ringed() {
        fit(Check.laid(HEAD + ";unsure c d 50;tried d c fed"), 1, 0, 0, 1, -2, 0, 1);
    }

    /** What was tried was tried at first: acts change nothing of it. */
    private static void firstOnly() {
        SpoonTable x = Check.laid(HEAD + ";unsure b a 1;unsure b c 1;tried a b fed");
        fit(x, 2, 0, 1, 1, -2, 0, 2);
        x.year();
        x.quarrel(0);
        x.sit(0, 1);
        x.know(0, 2);
        fit(x, 2, 0, 1, 1, -2, 0, 2);
    }
}
