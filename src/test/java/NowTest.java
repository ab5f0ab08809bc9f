/** Promises 6 to 10: seats, pairs, who can feed whom, forks between. */
public final class NowTest {
    private static final String TEXT = "table seats 10 slack 1 saw 3 quarrel 30;person a at 0;person b at 9;person c at 4;"
        + "fork 1;fork 4;fork 9;fork 0;known b a years 8 plain;known c a years 9 hinged;known b c years 50 ringed";

    public static void main(String[] args) {
        noTable();
        SpoonTable x = Check.laid(TEXT);
        seats(x);
        pairs(x);
        reach();
        Check.end();
    }

    private static void noTable() {
        SpoonTable x = new SpoonTable();
        Check.refused(x, "seat", x.seat(0), 1);
        Check.refused(x, "pair", x.pair(0, 0), 1);
        Check.refused(x, "pairOf", x.pairOf(0, 1), 1);
        Check.refused(x, "feeders", x.feeders(0), 1);
        Check.refused(x, "forks", x.forks(0, 1), 1);
    }

    private static void seats(SpoonTable x) {
        int[] seats = {0, 9, 4};
        for (int p = 0; p < 3; p++) {
            Check.due("seat(" + p + ")", x.seat(p), seats[p]);
            Check.due("trouble", x.trouble(), 0);
        }
        Check.refused(x, "seat(3)", x.seat(3), 1);
        Check.refused(x, "seat(-1)", x.seat(-1), 1);
        Check.due("forks(0, 1)", x.forks(0, 1), 2);
        Check.due("forks(1, 0)", x.forks(1, 0), 2);
        Check.due("forks(1, 2)", x.forks(1, 2), 0);
        Check.due("forks(2, 0)", x.forks(2, 0), 1);
        Check.refused(x, "forks(0, 0)", x.forks(0, 0), 1);
        Check.refused(x, "forks(0, 3)", x.forks(0, 3), 1);
        Check.refused(x, "forks(-1, 0)", x.forks(-1, 0), 1);
    }

    private static void pairs(SpoonTable x) {
        int[][] due = {{1, 0, 8, 8, 0, 0, 1, 3}, {2, 0, 9, 9, 1, 0, 1, 1}, {1, 2, 50, 1, 2, 0, 0, 5}};
        for (int k = 0; k < 3; k++) {
            for (int what = 0; what < 8; what++) {
                Check.due("pair(" + k + ", " + what + ")", x.pair(k, what), due[k][what]);
                Check.due("trouble", x.trouble(), 0);
            }
        }
        Check.refused(x, "pair(3, 0)", x.pair(3, 0), 1);
        Check.refused(x, "pair(-1, 0)", x.pair(-1, 0), 1);
        Check.refused(x, "pair(0, 8)", x.pair(0, 8), 1);
        Check.refused(x, "pair(0, -1)", x.pair(0, -1), 1);
        Check.due("pairOf(0, 1)", x.pairOf(0, 1), 0);
        Check.due("pairOf(1, 0)", x.pairOf(1, 0), 0);
        Check.due("pairOf(2, 1)", x.pairOf(2, 1), 2);
        Check.refused(x, "pairOf(1, 1)", x.pairOf(1, 1), 1);
        Check.refused(x, "pairOf(1, 3)", x.pairOf(1, 3), 1);
        Check.refused(x, "pairOf(-1, 1)", x.pairOf(-1, 1), 1);
        Check.due("feeders(0)", x.feeders(0), 6);
        Check.due("feeders(1)", x.feeders(1), 1);
        Check.due("feeders(2)", x.feeders(2), 1);
        Check.refused(x, "feeders(3)", x.feeders(3), 1);
        Check.due("strangers", Check.laid("table seats 3 slack 0 saw 1 quarrel 0;person a at 0;person b at 2").pairOf(0, 1), -2);
    }

    /** Two people, so far apart, with such a handle: whether they can feed by slack 0 and by slack 2. */
    private static void reach() {
        can("plain", 5, 5, true, true);
        can("plain", 4, 5, false, true);
        can("plain", 3, 5, false, true);
        can("plain", 2, 5, false, false);
        can("plain", 7, 5, false, true);
        can("plain", 8, 5, false, false);
        can("plain", 10, 5, false, false);
        can("hinged", 5, 5, true, true);
        can("hinged", 10, 5, true, true);
        can("hinged", 11, 5, true, true);
        can("hinged", 12, 5, false, true);
        can("hinged", 15, 5, false, true);
        can("hinged", 16, 5, false, false);
        can("hinged", 9, 5, false, true);
        can("hinged", 2, 5, false, false);
        can("ringed", 5, 5, false, false);
        can("ringed", 99, 1, true, true);
        can("ringed", 0, 3, false, true);
        can("plain", 0, 1, false, true);
    }

    private static void can(String kind, int years, int far, boolean exact, boolean loose) {
        for (int slack = 0; slack <= 2; slack += 2) {
            String text = "table seats 10 slack " + slack + " saw 1 quarrel 0;person a at " + (far + 2)
                + ";person b at 2;fork 3;known a b years " + years + " " + kind;
            SpoonTable x = Check.laid(text);
            Check.due(text, x.pair(0, 6), (slack == 0 ? exact : loose) ? 1 : 0);
            int slops = far > 1 ? Math.max(0, far - 3) : far;
            Check.due("slops of " + text, x.pair(0, 7), slops);
        }
    }
}
