import java.util.function.Supplier;

/** Promises 47 to 50 at their edges: quarrels by chance and by draws. */
public final class EdgeChanceTest {
    public static void main(String[] args) {
        odds();
        noOdds();
        mean();
        longestMean();
        noMean();
        drawnHandle();
        noDrawnHandle();
        drawnFed();
        noDrawnFed();
        Edge.end(47, 50);
    }

    private static Supplier<SpoonTable> two(int saw, int quarrel, int far, int years, String kind) {
        return Tables.of("seats 10 slack 0 saw " + saw + " quarrel " + quarrel, "person a at 0", "person b at " + far,
            "known a b years " + years + " " + kind);
    }

    private static void oddsAre(String what, Supplier<SpoonTable> made, int n, long upper, long lower) {
        Edge.answers(what + ", upper", made, x -> x.odds(0, n, false), upper);
        Edge.answers(what + ", lower", made, x -> x.odds(0, n, true), lower);
    }

    private static void meanIs(String what, Supplier<SpoonTable> made, int n, long upper, long lower) {
        Edge.answers(what + ", upper", made, x -> x.mean(0, n, false), upper);
        Edge.answers(what + ", lower", made, x -> x.mean(0, n, true), lower);
    }

    private static void odds() {
        Edge.promise(47, "How likely a PAIR can FEED behind n years (0 .. 8) with QUARRELS, the upper WHOLE or the lower, "
            + "in lowest terms (0 by 1).");
        oddsAre("0 years, it can", two(1, 50, 9, 9, "plain"), 0, 1, 1);
        oddsAre("0 years, it can't", two(1, 50, 9, 8, "plain"), 0, 0, 1);
        oddsAre("8 years, never a quarrel", two(9, 0, 9, 1, "plain"), 8, 1, 1);
        oddsAre("8 years, a quarrel each", two(1, 100, 9, 9, "plain"), 8, 1, 1);
        oddsAre("8 years, it can't", two(9, 50, 9, 0, "plain"), 8, 0, 1);
        // 99 in a hundred eight times; its upper whole is odd, and no fifth divides it.
        oddsAre("the greatest wholes", two(9, 1, 9, 1, "plain"), 8, 9227446944279201L, 10000000000000000L);
        oddsAre("a hundred to the eighth, for one quarrel each", two(1, 1, 8, 8, "plain"), 8, 1, 10000000000000000L);
        oddsAre("lowest terms", two(1, 50, 8, 8, "plain"), 8, 1, 256);
        oddsAre("ringed, 8 years, it can", two(9, 100, 1, 0, "ringed"), 8, 1, 1);
        oddsAre("ringed, 8 years, it can't", two(9, 100, 2, 0, "ringed"), 8, 0, 1);
        // The tenth pair, at 6 and 8: slack 3, sawn by 9 of 14 behind a year: 15 less 9, 6.
        Edge.answers("the tenth pair", Tables::full, x -> x.odds(9, 1, false), 0);
        Edge.answers("the tenth pair, 2 years: none left", Tables::full, x -> x.odds(9, 2, false), 1);
    }

    private static void noOdds() {
        Edge.promise(47, "-1: 1; 2.");
        Edge.noTable("odds(0, 0)", x -> x.odds(0, 0, false), -1);
        Edge.noTable("odds(0, 9)", x -> x.odds(0, 9, true), -1);
        Edge.refused("odds(0, 0) of nobody known", Tables::alone, x -> x.odds(0, 0, true), -1, 1);
        Edge.outside("odds(.., 8)", Tables::busy, 0, 1, (x, k) -> x.odds(k, 8, false), -1, 1);
        Edge.outside("odds(.., 9)", Tables::full, 0, 9, (x, k) -> x.odds(k, 9, false), -1, 1);
        Edge.outside("odds(1, ..)", Tables::busy, 0, 8, (x, n) -> x.odds(1, n, true), -1, 2);
        Edge.outside("odds(9, ..)", Tables::full, 0, 8, (x, n) -> x.odds(9, n, false), -1, 2);
    }

    private static void mean() {
        Edge.promise(48, "The mean of its HANDLE then, likewise.");
        meanIs("0 years", two(1, 50, 9, 99, "plain"), 0, 99, 1);
        meanIs("0 years, a handle of 0", two(1, 50, 9, 0, "plain"), 0, 0, 1);
        meanIs("8 years, never a quarrel", two(9, 0, 9, 99, "plain"), 8, 107, 1);
        meanIs("8 years, all sawn each", two(9, 100, 9, 0, "plain"), 8, 0, 1);
        meanIs("all it has, if that is fewer", two(9, 50, 9, 7, "hinged"), 1, 4, 1);
        meanIs("all it has", two(9, 50, 9, 8, "plain"), 1, 9, 2);
        meanIs("an inch is left", two(9, 50, 9, 9, "plain"), 1, 11, 2);
        meanIs("ringed", two(9, 100, 9, 99, "ringed"), 8, 1, 1);
        meanIs("lowest terms: 107 less 8 times 9 in a hundred", two(9, 1, 9, 99, "plain"), 8, 2657, 25);
    }

    /** A handle of so many inches, which takes more calls than are promised; the words say it all the same. */
    private static SpoonTable grown(int handle, String kind) {
        SpoonTable x = two(9, 1, 9, 99, kind).get();
        Tables.years(x, handle - 99);
        return x;
    }

    private static void longestMean() {
        Edge.promise(48, "-1: 1; 2; 3 (its HANDLE is above 900 now).");
        SpoonTable x = grown(900, "plain");
        Edge.due("handle", x.pair(0, 3), 900);
        // 908 less 8 times 9 in a hundred: 907 and 28 in a hundred.
        Edge.due("900: the upper whole", x.mean(0, 8, false), 22682);
        Edge.due("900: the lower whole", x.mean(0, 8, true), 25);
        Edge.due("900 is no refusal", x.trouble(), 0);
        for (int n : new int[] {0, 8}) {
            Edge.due("901, " + n, grown(901, "plain").mean(0, n, false), -1);
            Edge.refused("901, " + n, () -> grown(901, "hinged"), y -> y.mean(0, n, true), -1, 3);
        }
        Edge.refused("901, no number", () -> grown(901, "plain"), y -> y.mean(0, 9, true), -1, 2);
        Edge.refused("901, no pair", () -> grown(901, "plain"), y -> y.mean(1, 9, true), -1, 1);
        Edge.due("ringed: 1, ever", grown(901, "ringed").mean(0, 8, false), 1);
        x = grown(901, "plain");
        Edge.due("odds are told still", x.odds(0, 8, true), 1);
        x.quarrel(0);
        Edge.due("sawn to 892", x.mean(0, 0, false), 892);
        Edge.due("no refusal", x.trouble(), 0);
    }

    private static void noMean() {
        Edge.promise(48, "-1: 1; 2; 3 (its HANDLE is above 900 now).");
        Edge.noTable("mean(0, 0)", x -> x.mean(0, 0, false), -1);
        Edge.noTable("mean(0, 9)", x -> x.mean(0, 9, true), -1);
        Edge.refused("mean(0, 0) of nobody known", Tables::alone, x -> x.mean(0, 0, true), -1, 1);
        Edge.outside("mean(.., 8)", Tables::busy, 0, 1, (x, k) -> x.mean(k, 8, false), -1, 1);
        Edge.outside("mean(.., 9)", Tables::full, 0, 9, (x, k) -> x.mean(k, 9, false), -1, 1);
        Edge.outside("mean(1, ..)", Tables::busy, 0, 8, (x, n) -> x.mean(1, n, true), -1, 2);
        Edge.outside("mean(9, ..)", Tables::full, 0, 8, (x, n) -> x.mean(9, n, false), -1, 2);
    }

    private static void drawnHandle() {
        Edge.promise(49, "Its HANDLE behind n years (0 .. 60) by a SEED (0 .. 65,536).");
        Supplier<SpoonTable> even = two(2, 37, 9, 3, "plain");
        Edge.answers("0 years, 0", even, x -> x.drawnHandle(0, 0, 0), 3);
        Edge.answers("0 years, 65536", even, x -> x.drawnHandle(0, 65536, 0), 3);
        // 65536 becomes itself: 36, below 37.
        Edge.answers("1 year, 65536", even, x -> x.drawnHandle(0, 65536, 1), 2);
        Edge.answers("60 years, 65536", even, x -> x.drawnHandle(0, 65536, 60), 0);
        Edge.answers("60 years, 65536, 36 isn't below 36", two(2, 36, 9, 3, "plain"), x -> x.drawnHandle(0, 65536, 60), 63);
        // 0 becomes 74.
        Edge.answers("1 year, 0: 74 isn't below 74", two(2, 74, 9, 3, "plain"), x -> x.drawnHandle(0, 0, 1), 4);
        Edge.answers("1 year, 0: 74 is below 75", two(2, 75, 9, 3, "plain"), x -> x.drawnHandle(0, 0, 1), 2);
        // 872 becomes 65474, and 873, 65549 less 65537, 12.
        Edge.answers("the last that doesn't wrap", two(2, 74, 9, 3, "plain"), x -> x.drawnHandle(0, 872, 1), 4);
        Edge.answers("the first that wraps", two(2, 13, 9, 3, "plain"), x -> x.drawnHandle(0, 873, 1), 2);
        Edge.answers("the first that wraps, 12", two(2, 12, 9, 3, "plain"), x -> x.drawnHandle(0, 873, 1), 4);
        Edge.answers("60 years, never a quarrel", two(9, 0, 9, 99, "plain"), x -> x.drawnHandle(0, 1, 60), 159);
        Edge.answers("60 years, ever", two(1, 100, 9, 99, "plain"), x -> x.drawnHandle(0, 1, 60), 99);
        Edge.answers("a ring, ever", two(9, 100, 9, 99, "ringed"), x -> x.drawnHandle(0, 1, 60), 1);
        Edge.answers("the tenth pair: 14, 15 less 9, 7 less 7", Tables::full, x -> 10 * x.drawnHandle(9, 5, 1) + x.drawnHandle(9, 5, 2), 60);
    }

    private static void noDrawnHandle() {
        Edge.promise(49, "NONE: 1; 2.");
        Edge.noTable("drawnHandle(0, 0, 0)", x -> x.drawnHandle(0, 0, 0), -1);
        Edge.noTable("drawnHandle(0, -1, 61)", x -> x.drawnHandle(0, -1, 61), -1);
        Edge.refused("drawnHandle(0, 0, 0) of nobody known", Tables::alone, x -> x.drawnHandle(0, 0, 0), -1, 1);
        Edge.outside("drawnHandle(.., 0, 0)", Tables::busy, 0, 1, (x, k) -> x.drawnHandle(k, 0, 0), -1, 1);
        Edge.outside("drawnHandle(.., -1, 61)", Tables::full, 0, 9, (x, k) -> x.drawnHandle(k, -1, 61), -1, 1);
        Edge.outside("drawnHandle(1, .., 0)", Tables::busy, 0, 65536, (x, seed) -> x.drawnHandle(1, seed, 0), -1, 2);
        Edge.outside("drawnHandle(9, .., 60)", Tables::full, 0, 65536, (x, seed) -> x.drawnHandle(9, seed, 60), -1, 2);
        Edge.outside("drawnHandle(1, 0, ..)", Tables::busy, 0, 60, (x, n) -> x.drawnHandle(1, 0, n), -1, 2);
        Edge.outside("drawnHandle(9, 65536, ..)", Tables::full, 0, 60, (x, n) -> x.drawnHandle(9, 65536, n), -1, 2);
    }

    private static void drawnFed() {
        Edge.promise(50, "How many are FED then.");
        Edge.answers("one alone, 60 years", Tables::alone, x -> x.drawnFed(65536, 60), 0);
        Edge.answers("0 years, they can", two(2, 50, 3, 3, "plain"), x -> x.drawnFed(0, 0), 2);
        Edge.answers("0 years, they can't", two(2, 50, 4, 3, "plain"), x -> x.drawnFed(65536, 0), 0);
        Edge.answers("1 year, no quarrel", two(2, 74, 4, 3, "plain"), x -> x.drawnFed(0, 1), 2);
        Edge.answers("1 year, a quarrel", two(2, 75, 2, 3, "plain"), x -> x.drawnFed(0, 1), 2);
        Edge.answers("a ring, 60 years", two(2, 75, 1, 3, "ringed"), x -> x.drawnFed(65536, 60), 2);
        Edge.answers("four of five", Tables::allFeed, x -> x.drawnFed(65536, 0), 4);
    }

    private static void noDrawnFed() {
        Edge.promise(50, "NONE: 1 (no TABLE); 2.");
        Edge.noTable("drawnFed(0, 0)", x -> x.drawnFed(0, 0), -1);
        Edge.noTable("drawnFed(-1, 61)", x -> x.drawnFed(-1, 61), -1);
        Edge.outside("drawnFed(.., 0)", Tables::alone, 0, 65536, (x, seed) -> x.drawnFed(seed, 0), -1, 2);
        Edge.outside("drawnFed(.., 60)", Tables::full, 0, 65536, (x, seed) -> x.drawnFed(seed, 60), -1, 2);
        Edge.outside("drawnFed(0, ..)", Tables::busy, 0, 60, (x, n) -> x.drawnFed(0, n), -1, 2);
        Edge.outside("drawnFed(65536, ..)", Tables::full, 0, 60, (x, n) -> x.drawnFed(65536, n), -1, 2);
    }
}
