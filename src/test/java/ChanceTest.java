/** Promises 47 to 50: quarrels by chance and by draws. */
public final class ChanceTest {
    public static void main(String[] args) {
        noTable();
        odds();
        mean();
        numbers();
        draws();
        Check.end();
    }

    private static void noTable() {
        SpoonTable x = new SpoonTable();
        Check.refused(x, "odds", x.odds(0, 9, false), 1);
        Check.refused(x, "mean", x.mean(0, 9, true), 1);
        Check.refused(x, "drawnHandle", x.drawnHandle(0, -1, 0), 1);
        Check.refused(x, "drawnFed", x.drawnFed(-1, 0), 1);
    }

    private static SpoonTable two(int saw, int quarrel, int far, int years, String kind) {
        return Check.laid("table seats 10 slack 0 saw " + saw + " quarrel " + quarrel + ";person a at 0;person b at " + far
            + ";known a b years " + years + " " + kind);
    }

    private static void oddsAre(SpoonTable x, int n, long upper, long lower) {
        Check.due("odds(0, " + n + ")", x.odds(0, n, false), upper);
        Check.due("odds(0, " + n + ", lower)", x.odds(0, n, true), lower);
        Check.due("trouble", x.trouble(), 0);
    }

    private static void meanIs(SpoonTable x, int n, long upper, long lower) {
        Check.due("mean(0, " + n + ")", x.mean(0, n, false), upper);
        Check.due("mean(0, " + n + ", lower)", x.mean(0, n, true), lower);
        Check.due("trouble", x.trouble(), 0);
    }

    private static void odds() {
        SpoonTable x = two(2, 25, 4, 3, "plain");
        oddsAre(x, 0, 0, 1);
        oddsAre(x, 1, 3, 4);
        // 3, then 4 or 2; then 5, 3, 3 or 1.
        oddsAre(x, 2, 0, 1);
        // One quarrel in three years, whichever: 3 times 1 by 4 times 9 by 16.
        oddsAre(x, 3, 27, 64);
        oddsAre(two(2, 25, 4, 4, "plain"), 0, 1, 1);
        oddsAre(two(9, 1, 9, 1, "plain"), 8, 9227446944279201L, 10000000000000000L);
        oddsAre(two(1, 100, 5, 5, "plain"), 8, 1, 1);
        oddsAre(two(1, 0, 5, 0, "plain"), 5, 1, 1);
        oddsAre(two(1, 50, 1, 0, "ringed"), 8, 1, 1);
        oddsAre(two(1, 50, 2, 2, "ringed"), 8, 0, 1);
        // Hinged, 4 or 2 behind a year: 4 feeds by its half.
        oddsAre(two(2, 40, 2, 3, "hinged"), 1, 1, 1);
        oddsAre(two(1, 40, 2, 3, "hinged"), 1, 3, 5);
    }

    private static void mean() {
        meanIs(two(2, 25, 4, 3, "plain"), 0, 3, 1);
        meanIs(two(2, 25, 4, 3, "plain"), 1, 7, 2);
        meanIs(two(9, 50, 4, 0, "plain"), 0, 0, 1);
        meanIs(two(9, 50, 4, 0, "plain"), 1, 1, 2);
        // 1 or 0; then 2, 0, 1 or 0.
        meanIs(two(9, 50, 4, 0, "plain"), 2, 3, 4);
        meanIs(two(9, 100, 4, 0, "plain"), 8, 0, 1);
        meanIs(two(9, 30, 4, 99, "ringed"), 8, 1, 1);
        meanIs(two(9, 0, 4, 99, "hinged"), 8, 107, 1);
        meanIs(two(1, 33, 4, 99, "plain"), 8, 99 * 25 + 8 * 25 - 66, 25);
    }

    private static void numbers() {
        SpoonTable x = two(2, 25, 4, 3, "plain");
        Check.refused(x, "odds(0, 9)", x.odds(0, 9, false), 2);
        Check.refused(x, "odds(0, -1)", x.odds(0, -1, true), 2);
        Check.refused(x, "odds(1, 9)", x.odds(1, 9, false), 1);
        Check.refused(x, "odds(-1, 0)", x.odds(-1, 0, false), 1);
        Check.refused(x, "mean(0, 9)", x.mean(0, 9, false), 2);
        Check.refused(x, "mean(0, -1)", x.mean(0, -1, true), 2);
        Check.refused(x, "mean(1, 9)", x.mean(1, 9, false), 1);
        Check.refused(x, "drawnHandle(1, -1, 0)", x.drawnHandle(1, -1, 0), 1);
        Check.refused(x, "drawnHandle(0, -1, 0)", x.drawnHandle(0, -1, 0), 2);
        Check.refused(x, "drawnHandle(0, 65537, 0)", x.drawnHandle(0, 65537, 0), 2);
        Check.refused(x, "drawnHandle(0, 0, 61)", x.drawnHandle(0, 0, 61), 2);
        Check.refused(x, "drawnHandle(0, 0, -1)", x.drawnHandle(0, 0, -1), 2);
        Check.refused(x, "drawnFed(-1, 0)", x.drawnFed(-1, 0), 2);
        Check.refused(x, "drawnFed(65537, 0)", x.drawnFed(65537, 0), 2);
        Check.refused(x, "drawnFed(0, 61)", x.drawnFed(0, 61), 2);
        Check.refused(x, "drawnFed(0, -1)", x.drawnFed(0, -1), 2);
        for (int i = 0; i < 897; i++) {
            x.year();
        }
        meanIs(x, 8, 900 + 4, 1);
        x.year();
        Check.refused(x, "mean above 900", x.mean(0, 8, false), 3);
        Check.refused(x, "mean above 900, a number, too", x.mean(0, 9, false), 2);
        oddsAre(x, 8, 0, 1);
    }

    private static void draws() {
        SpoonTable x = two(2, 50, 4, 3, "plain");
        Check.due("no year", x.drawnHandle(0, 0, 0), 3);
        // From 0 the draws are 74, 5624, 28652, 51750 (as 75 times 28652 and 74, 2148974, less 32 times 65537).
        Check.due("74: none", x.drawnHandle(0, 0, 1), 4);
        Check.due("24: a quarrel", x.drawnHandle(0, 0, 2), 3);
        Check.due("52: none", x.drawnHandle(0, 0, 3), 4);
        Check.due("90: none", x.drawnHandle(0, 0, 4), 5);
        Check.due("fed behind 1", x.drawnFed(0, 1), 2);
        Check.due("fed behind 2", x.drawnFed(0, 2), 0);
        Check.due("fed behind 3", x.drawnFed(0, 3), 2);
        // 65536 stays itself, and 36 is below 50.
        Check.due("65536, 2 years", x.drawnHandle(0, 65536, 2), 1);
        Check.due("65536, 60 years", x.drawnHandle(0, 65536, 60), 0);
        Check.due("65536, fed", x.drawnFed(65536, 60), 0);
        Check.due("trouble", x.trouble(), 0);
        Check.due("1, 60 years", x.drawnHandle(0, 1, 60), drawn(1, 60));
        Check.due("below, not at", two(2, 74, 4, 3, "plain").drawnHandle(0, 0, 1), 4);
        Check.due("below", two(2, 75, 4, 3, "plain").drawnHandle(0, 0, 1), 2);
        Check.due("never", two(2, 0, 4, 3, "plain").drawnHandle(0, 7, 60), 63);
        Check.due("ever, to 0", two(9, 100, 4, 3, "plain").drawnHandle(0, 7, 60), 0);
        Check.due("a ring", two(9, 100, 1, 3, "ringed").drawnFed(7, 60), 2);
        // A ringed pair ahead takes its draw, too: b c have the second, 24.
        x = Check.laid("table seats 10 slack 0 saw 2 quarrel 50;person a at 0;person b at 4;person c at 6;"
            + "known a b years 3 ringed;known b c years 3 plain");
        Check.due("the second draw", x.drawnHandle(1, 0, 1), 2);
        Check.due("the fourth draw", x.drawnHandle(1, 0, 2), 3);
        Check.due("the ring", x.drawnHandle(0, 0, 2), 1);
        Check.due("fed", x.drawnFed(0, 1), 2);
        Check.due("nothing was done", x.pair(1, 3), 3);
    }

    /** The handle of the one pair of 3 years, quarrel 50, saw 2. */
    private static int drawn(long seed, int n) {
        int handle = 3;
        for (int i = 0; i < n; i++) {
            seed = (75 * seed + 74) % 65537;
            handle++;
            handle = seed % 100 < 50 ? Math.max(0, handle - 2) : handle;
        }
        return handle;
    }
}
