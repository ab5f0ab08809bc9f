import java.util.function.Supplier;

/** Promises 11 to 16 at their edges: the best match. */
public final class EdgeFedTest {
    private static final String EXACT = "seats 10 slack 0 saw 1 quarrel 0";

    public static void main(String[] args) {
        fed();
        match();
        slops();
        mate();
        noMate();
        starving();
        matches();
        Edge.end(11, 16);
    }

    /** Two, 1 apart, known for so many years. */
    private static Supplier<SpoonTable> two(int years) {
        return Tables.of(EXACT, "person a at 0", "person b at 1", "known b a years " + years + " plain");
    }

    /** Only b c and d e, the fifth and the tenth pair, can feed. */
    private static SpoonTable lastPairs() {
        return Tables.five(EXACT, 9, 9, 9, 9, 1, 9, 9, 9, 9, 1).get();
    }

    private static void fed() {
        Edge.promise(11, "How many are FED by the BEST MATCH.");
        Edge.answers("one alone", Tables::alone, SpoonTable::fed, 0);
        Edge.answers("two strangers", Tables.of(EXACT, "person a at 0", "person b at 1"), SpoonTable::fed, 0);
        Edge.answers("an inch too short", two(0), SpoonTable::fed, 0);
        Edge.answers("two", two(1), SpoonTable::fed, 2);
        Edge.answers("an inch too long", two(2), SpoonTable::fed, 0);
        Edge.answers("four of five", Tables::allFeed, SpoonTable::fed, 4);
        Edge.answers("by the last pairs", EdgeFedTest::lastPairs, SpoonTable::fed, 4);
        Edge.promise(11, "NONE: 1 (no TABLE).");
        Edge.noTable("fed()", SpoonTable::fed, -1);
    }

    private static void match() {
        Edge.promise(12, "BEST MATCH, as bits of PAIRS.");
        Edge.answers("one alone", Tables::alone, SpoonTable::match, 0);
        Edge.answers("none can", two(2), SpoonTable::match, 0);
        Edge.answers("the first pair", two(1), SpoonTable::match, 1);
        Edge.answers("the tenth pair, too", EdgeFedTest::lastPairs, SpoonTable::match, 1 << 9 | 1 << 4);
        Edge.answers("of many", Tables::allFeed, SpoonTable::match, 1 << 7 | 1);
        Edge.promise(12, "NONE: 1 (no TABLE).");
        Edge.noTable("match()", SpoonTable::match, -1);
    }

    private static void slops() {
        Edge.promise(13, "SLOPS of it together.");
        Edge.answers("one alone", Tables::alone, SpoonTable::slops, 0);
        Edge.answers("none can", two(0), SpoonTable::slops, 0);
        Edge.answers("the least without forks", two(1), SpoonTable::slops, 1);
        String most = EXACT + ";person a at 0;person b at 9;person c at 1;person d at 8;known a b years 9 plain;known c d years 7 plain";
        Edge.answers("the most", Tables.of(most), SpoonTable::slops, 16);
        Edge.answers("forks between", Tables.of(most, "fork 2", "fork 7"), SpoonTable::slops, 3 + 1);
        Edge.answers("nothing is left of either", Tables.of(most, "fork 2", "fork 7", "fork 4"), SpoonTable::slops, 0);
        Edge.promise(13, "NONE: 1 (no TABLE).");
        Edge.noTable("slops()", SpoonTable::slops, -1);
    }

    private static void mate() {
        Edge.promise(14, "Who FEEDS one by it; -2 nobody.");
        Edge.answers("one alone", Tables::alone, x -> x.mate(0), -2);
        int[] mates = {-2, 2, 1, 4, 3};
        for (int p = 0; p < 5; p++) {
            int one = p;
            Edge.answers("mate(" + p + ")", EdgeFedTest::lastPairs, x -> x.mate(one), mates[p]);
        }
        Edge.answers("the other one told first", two(1), x -> x.mate(0), 1);
        Edge.answers("the one told first", two(1), x -> x.mate(1), 0);
    }

    private static void noMate() {
        Edge.promise(14, "NONE: 1.");
        Edge.noTable("mate(0)", x -> x.mate(0), -1);
        Edge.outside("mate()", Tables::alone, 0, 0, SpoonTable::mate, -1, 1);
        Edge.outside("mate()", Tables::busy, 0, 2, SpoonTable::mate, -1, 1);
        Edge.outside("mate()", Tables::full, 0, 4, SpoonTable::mate, -1, 1);
    }

    private static void starving() {
        Edge.promise(15, "Who isn't FED by it, as bits.");
        Edge.answers("one alone", Tables::alone, SpoonTable::starving, 1);
        Edge.answers("both", two(0), SpoonTable::starving, 3);
        Edge.answers("nobody", two(1), SpoonTable::starving, 0);
        Edge.answers("the first", EdgeFedTest::lastPairs, SpoonTable::starving, 1);
        Edge.answers("the last", Tables::allFeed, SpoonTable::starving, 16);
        Edge.answers("all five", Tables.five(EXACT, 9, 9, 9, 9, 9, 9, 9, 9, 9, 9),
            SpoonTable::starving, 31);
        Edge.promise(15, "NONE: 1 (no TABLE).");
        Edge.noTable("starving()", SpoonTable::starving, -1);
    }

    private static void matches() {
        Edge.promise(16, "How many MATCHES there are (the empty one, too).");
        Edge.answers("only the empty one", Tables::alone, SpoonTable::matches, 1);
        Edge.answers("only the empty one, none can", two(0), SpoonTable::matches, 1);
        Edge.answers("one more", two(1), SpoonTable::matches, 2);
        // b c, d e, and both.
        Edge.answers("two pairs that share nobody", EdgeFedTest::lastPairs, SpoonTable::matches, 4);
        // Ten of one pair, fifteen of two.
        Edge.answers("the most", Tables::allFeed, SpoonTable::matches, 26);
        Edge.promise(16, "NONE: 1 (no TABLE).");
        Edge.noTable("matches()", SpoonTable::matches, -1);
    }
}
