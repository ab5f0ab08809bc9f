/** Promises 17 to 22: years to come. */
public final class YearsTest {
    private static final String TEXT = "table seats 10 slack 0 saw 2 quarrel 50;person a at 0;person b at 4;person c at 9;person d at 5;"
        + "known a b years 1 plain;known c d years 0 hinged;known a c years 3 ringed;known b d years 7 ringed;known a d years 12 plain";

    public static void main(String[] args) {
        noTable();
        handles();
        feeding();
        all();
        sawn();
        Check.end();
    }

    private static void noTable() {
        SpoonTable x = new SpoonTable();
        Check.refused(x, "handleIn", x.handleIn(0, 0), 1);
        Check.refused(x, "feedsIn", x.feedsIn(0), 1);
        Check.refused(x, "feedsOften", x.feedsOften(0), 1);
        Check.refused(x, "fedIn", x.fedIn(61), 1);
        Check.refused(x, "bestYear", x.bestYear(), 1);
        Check.refused(x, "allIn", x.allIn(), 1);
    }

    private static void handles() {
        SpoonTable x = Check.laid(TEXT);
        Check.due("handleIn(0, 0)", x.handleIn(0, 0), 1);
        Check.due("handleIn(0, 60)", x.handleIn(0, 60), 61);
        Check.due("handleIn(1, 7)", x.handleIn(1, 7), 7);
        Check.due("handleIn(2, 60)", x.handleIn(2, 60), 1);
        Check.refused(x, "handleIn(0, 61)", x.handleIn(0, 61), 2);
        Check.refused(x, "handleIn(0, -1)", x.handleIn(0, -1), 2);
        Check.refused(x, "handleIn(5, 61)", x.handleIn(5, 61), 1);
        Check.refused(x, "handleIn(-1, 0)", x.handleIn(-1, 0), 1);
    }

    private static void feeding() {
        SpoonTable x = Check.laid(TEXT);
        int[] first = {3, 4, -2, 0, -2};
        int[] often = {1, 3, 0, 61, 0};
        for (int k = 0; k < 5; k++) {
            Check.due("feedsIn(" + k + ")", x.feedsIn(k), first[k]);
            Check.due("feedsOften(" + k + ")", x.feedsOften(k), often[k]);
        }
        Check.refused(x, "feedsIn(5)", x.feedsIn(5), 1);
        Check.refused(x, "feedsOften(5)", x.feedsOften(5), 1);
        Check.due("fedIn(0)", x.fedIn(0), 2);
        Check.due("fedIn(3)", x.fedIn(3), 2);
        Check.due("fedIn(60)", x.fedIn(60), 2);
        Check.refused(x, "fedIn(61)", x.fedIn(61), 2);
        Check.refused(x, "fedIn(-1)", x.fedIn(-1), 2);
        Check.due("bestYear", x.bestYear(), 0);
        Check.due("allIn", x.allIn(), -2);
        Check.due("now is as it was", x.pair(0, 3), 1);
    }

    private static void all() {
        SpoonTable x = Check.laid("table seats 6 slack 0 saw 1 quarrel 0;person a at 0;person b at 3;person c at 1;person d at 5;person e at 2;"
            + "known a b years 1 plain;known c d years 1 hinged");
        // a b feed behind 2 years; c d behind 3, and by the half behind 7 and 8.
        Check.due("fedIn(2)", x.fedIn(2), 2);
        Check.due("fedIn(3)", x.fedIn(3), 2);
        Check.due("fedIn(8)", x.fedIn(8), 2);
        Check.due("fedIn(9)", x.fedIn(9), 0);
        Check.due("bestYear", x.bestYear(), 2);
        Check.due("allIn", x.allIn(), -2);
        x.quarrel(1);
        // One inch less: behind 4 years.
        Check.due("feedsIn(1)", x.feedsIn(1), 4);
        x.know(4, 3);
        Check.due("a new pair, far 3", x.feedsIn(2), 3);
        x = Check.laid("table seats 6 slack 0 saw 1 quarrel 0;person a at 0;person b at 3;person c at 1;person d at 5;person e at 2;"
            + "known a b years 1 plain;known c d years 2 plain");
        Check.due("bestYear", x.bestYear(), 2);
        Check.due("allIn: one of five may starve", x.allIn(), 2);
        Check.due("fedIn(2)", x.fedIn(2), 4);
        x = Check.laid("table seats 2 slack 0 saw 1 quarrel 0;person a at 0");
        Check.due("one alone", x.allIn(), 0);
        Check.due("bestYear of one alone", x.bestYear(), 0);
        x = Check.laid("table seats 10 slack 0 saw 1 quarrel 0;person a at 0;person b at 9;known a b years 0 plain");
        Check.due("allIn of two", x.allIn(), 9);
    }

    private static void sawn() {
        SpoonTable x = Check.laid("table seats 10 slack 0 saw 9 quarrel 0;person a at 0;person b at 9;known a b years 3 plain");
        Check.due("sawn to 0", x.quarrel(0), 0);
        Check.due("and grows from there", x.handleIn(0, 9), 9);
        Check.due("feedsIn", x.feedsIn(0), 9);
    }
}
