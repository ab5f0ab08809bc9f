/** Promises 6 to 10 at their edges: seats, pairs, feeders, forks between. */
public final class EdgeNowTest {
    private static final String TEN = "seats 10 slack 3 saw 9 quarrel 100";

    public static void main(String[] args) {
        seat();
        noSeat();
        pair();
        pairMadeKnown();
        noPair();
        pairOf();
        strangers();
        noTwo();
        feeders();
        noFeeders();
        forks();
        noForks();
        Edge.end(6, 10);
    }

    private static void seat() {
        Edge.promise(6, "Where one sits.");
        Edge.answers("the only one", Tables::alone, x -> x.seat(0), 1);
        Edge.answers("the first of five, moved", Tables::full, x -> x.seat(0), 2);
        Edge.answers("the last of five, moved", Tables::full, x -> x.seat(4), 8);
        Edge.answers("the first seat", Tables.of(TEN, "person a at 9", "person b at 0"), x -> x.seat(1), 0);
        Edge.answers("the last seat", Tables.of(TEN, "person a at 9", "person b at 0"), x -> x.seat(0), 9);
    }

    private static void noSeat() {
        Edge.promise(6, "NONE: 1.");
        Edge.noTable("seat(0)", x -> x.seat(0), -1);
        Edge.outside("seat()", Tables::alone, 0, 0, SpoonTable::seat, -1, 1);
        Edge.outside("seat()", Tables::busy, 0, 2, SpoonTable::seat, -1, 1);
        Edge.outside("seat()", Tables::full, 0, 4, SpoonTable::seat, -1, 1);
    }

    private static void pair() {
        Edge.promise(7, "Of a PAIR 0 the one, 1 the other one (as told), 2 years it is known, 3 HANDLE, "
            + "4 KIND (0 plain, 1 hinged, 2 ringed), 5 inches SAWN, 6 1 if it can FEED, else 0, 7 SLOPS.");
        int[][] busy = {{0, 1, 5, 3, 1, 2, 1, 0}, {1, 2, 10, 1, 2, 0, 1, 1}};
        for (int k = 0; k < 2; k++) {
            for (int what = 0; what <= 7; what++) {
                int pair = k;
                int asked = what;
                Edge.answers("pair(" + k + ", " + what + ")", Tables::busy, x -> x.pair(pair, asked), busy[k][what]);
            }
        }
        // d e, the tenth: 3 years at first, 11 gone by; d at 6, e at 8, a fork at 7.
        int[] last = {3, 4, 14, 14, 0, 0, 0, 0};
        for (int what = 0; what <= 7; what++) {
            int asked = what;
            Edge.answers("pair(9, " + what + ")", Tables::full, x -> x.pair(9, asked), last[what]);
        }
        Edge.answers("told the other way", Tables.of(TEN, "person a at 9", "person b at 0", "known b a years 0 plain"),
            x -> 10 * x.pair(0, 0) + x.pair(0, 1), 10);
    }

    private static void pairMadeKnown() {
        Edge.promise(7, "NONE: 1.");
        SpoonTable x = Tables.busy();
        Edge.due("pair(2, 0), not known yet", x.pair(2, 0), -1);
        x.know(2, 0);
        int[] due = {2, 0, 0, 0, 0, 0, 0, 1};
        for (int what = 0; what <= 7; what++) {
            Edge.due("pair(2, " + what + "), known now", x.pair(2, what), due[what]);
        }
        x.undo();
        Edge.due("pair(2, 0), undone", x.pair(2, 0), -1);
        Edge.due("trouble()", x.trouble(), 1);
    }

    private static void noPair() {
        Edge.promise(7, "NONE: 1.");
        Edge.noTable("pair(0, 0)", x -> x.pair(0, 0), -1);
        Edge.outside("pair(.., 0) of nobody known", Tables::alone, 0, -1, (x, k) -> x.pair(k, 0), -1, 1);
        Edge.outside("pair(.., 3)", Tables::busy, 0, 1, (x, k) -> x.pair(k, 3), -1, 1);
        Edge.outside("pair(.., 3)", Tables::full, 0, 9, (x, k) -> x.pair(k, 3), -1, 1);
        Edge.outside("pair(0, ..)", Tables::busy, 0, 7, (x, what) -> x.pair(0, what), -1, 1);
        Edge.outside("pair(9, ..)", Tables::full, 0, 7, (x, what) -> x.pair(9, what), -1, 1);
    }

    private static void pairOf() {
        Edge.promise(8, "The PAIR of two people;");
        Edge.answers("the first", Tables::full, x -> x.pairOf(0, 1), 0);
        Edge.answers("the first, turned", Tables::full, x -> x.pairOf(1, 0), 0);
        Edge.answers("the last", Tables::full, x -> x.pairOf(3, 4), 9);
        Edge.answers("the last, turned", Tables::full, x -> x.pairOf(4, 3), 9);
        Edge.answers("between", Tables::full, x -> x.pairOf(2, 1), 4);
    }

    private static void strangers() {
        Edge.promise(8, "-2 they don't know each other.");
        Edge.answers("strangers", Tables::busy, x -> x.pairOf(0, 2), -2);
        Edge.answers("strangers, turned", Tables::busy, x -> x.pairOf(2, 0), -2);
        SpoonTable x = Tables.busy();
        x.know(2, 0);
        Edge.due("known now", x.pairOf(0, 2), 2);
        x.undo();
        Edge.due("strangers again", x.pairOf(0, 2), -2);
        Edge.due("no refusal", x.trouble(), 0);
    }

    private static void noTwo() {
        Edge.promise(8, "NONE: 1 (unlike).");
        Edge.noTable("pairOf(0, 1)", x -> x.pairOf(0, 1), -1);
        Edge.refused("pairOf(0, 0) of one", Tables::alone, x -> x.pairOf(0, 0), -1, 1);
        for (int p = 0; p < 3; p++) {
            int same = p;
            Edge.refused("pairOf(" + p + ", " + p + ")", Tables::busy, x -> x.pairOf(same, same), -1, 1);
        }
        Edge.outside("pairOf(.., 1)", Tables::busy, 0, 2, (x, p) -> x.pairOf(p, 1), -1, 1);
        Edge.outside("pairOf(1, ..)", Tables::busy, 0, 2, (x, p) -> x.pairOf(1, p), -1, 1);
        Edge.outside("pairOf(.., ..)", Tables::full, 0, 4, (x, p) -> x.pairOf(p, p), -1, 1);
    }

    private static void feeders() {
        Edge.promise(9, "People who can FEED one, as bits.");
        Edge.answers("nobody", Tables::alone, x -> x.feeders(0), 0);
        for (int p = 0; p < 5; p++) {
            int one = p;
            Edge.answers("all others of " + p, Tables::allFeed, x -> x.feeders(one), 31 & ~(1 << p));
        }
        // Slack 0, 1 apart: known for 0, 1 and 2 years.
        for (int years = 0; years <= 2; years++) {
            Edge.answers("known for " + years, Tables.of("seats 2 slack 0 saw 1 quarrel 0", "person a at 0", "person b at 1",
                "known a b years " + years + " plain"), x -> x.feeders(1), years == 1 ? 1 : 0);
        }
    }

    private static void noFeeders() {
        Edge.promise(9, "NONE: 1.");
        Edge.noTable("feeders(0)", x -> x.feeders(0), -1);
        Edge.outside("feeders()", Tables::alone, 0, 0, SpoonTable::feeders, -1, 1);
        Edge.outside("feeders()", Tables::busy, 0, 2, SpoonTable::feeders, -1, 1);
        Edge.outside("feeders()", Tables::full, 0, 4, SpoonTable::feeders, -1, 1);
    }

    private static void forks() {
        Edge.promise(10, "How many forks are at SEATS between two people's.");
        String[] ends = {TEN, "person a at 0", "person b at 9"};
        Edge.answers("none", Tables.of(ends), x -> x.forks(0, 1), 0);
        String told = String.join(";", ends);
        Edge.answers("at theirs", Tables.of(told, "fork 0", "fork 9"), x -> x.forks(0, 1), 0);
        Edge.answers("beside theirs", Tables.of(told, "fork 1", "fork 8"), x -> x.forks(0, 1), 2);
        Edge.answers("all four", Tables.of(told, "fork 1", "fork 8", "fork 4", "fork 5"), x -> x.forks(0, 1), 4);
        Edge.answers("turned", Tables.of(told, "fork 1", "fork 8", "fork 4", "fork 9"), x -> x.forks(1, 0), 3);
        String near = TEN + ";person a at 4;person b at 5";
        Edge.answers("side by side", Tables.of(near, "fork 3", "fork 4", "fork 5", "fork 6"), x -> x.forks(0, 1), 0);
        String one = TEN + ";person a at 4;person b at 6";
        Edge.answers("one seat between", Tables.of(one, "fork 4", "fork 5", "fork 6"), x -> x.forks(0, 1), 1);
        SpoonTable x = Tables.of(one, "fork 5", "fork 8").get();
        x.sit(1, 9);
        Edge.due("behind a change of seats", x.forks(0, 1), 2);
    }

    private static void noForks() {
        Edge.promise(10, "NONE: 1 (unlike).");
        Edge.noTable("forks(0, 1)", x -> x.forks(0, 1), -1);
        Edge.refused("forks(0, 0) of one", Tables::alone, x -> x.forks(0, 0), -1, 1);
        Edge.refused("forks(2, 2)", Tables::busy, x -> x.forks(2, 2), -1, 1);
        Edge.outside("forks(.., 1)", Tables::busy, 0, 2, (x, p) -> x.forks(p, 1), -1, 1);
        Edge.outside("forks(1, ..)", Tables::busy, 0, 2, (x, p) -> x.forks(1, p), -1, 1);
        Edge.outside("forks(.., 4)", Tables::full, 0, 4, (x, p) -> x.forks(p, 4), -1, 1);
    }
}
