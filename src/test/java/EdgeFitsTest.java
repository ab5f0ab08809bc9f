import java.util.function.Supplier;

/** Promises 37 to 43 at their edges: unsure years. */
public final class EdgeFitsTest {
    // By years as told the first three can feed, a d (3 apart), b d and c d can't.
    private static final String FOUR = "seats 10 slack 0 saw 2 quarrel 0;person a at 0;person b at 1;person c at 2;person d at 3;"
        + "known a b years 1 plain;known a c years 2 plain;known b c years 1 plain;known a d years 9 plain;"
        + "known b d years 9 plain;known c d years 9 plain";
    private static final String UNSURE = "unsure a b 5;unsure a c 5;unsure b c 5;unsure a d 3";
    private static final String ALL_SO = "tried a b fed;tried a c fed;tried b c fed;tried a d starved;tried b d starved;";

    public static void main(String[] args) {
        fits();
        fitAt();
        noFitAt();
        could();
        surely();
        ask();
        askLeaves();
        judge();
        Edge.end(37, 43);
    }

    /** Nothing unsure, and what was tried can't have been. */
    private static Supplier<SpoonTable> noFits(String unsure) {
        return Tables.of(FOUR, unsure, "tried c d fed");
    }

    private static Supplier<SpoonTable> sixteen() {
        return Tables.of(FOUR, UNSURE);
    }

    /** All four had the other years. */
    private static Supplier<SpoonTable> allOther() {
        return Tables.of(FOUR, UNSURE, "tried a b starved", "tried a c starved", "tried b c starved", "tried a d fed");
    }

    /** The first and the third had the other years, the second its own; and a line more. */
    private static Supplier<SpoonTable> someOther(String more) {
        return Tables.of(FOUR, UNSURE, "tried a b starved", "tried a c fed", "tried b c starved", more);
    }

    /** The first three had their years as told; of a d nothing is known. */
    private static Supplier<SpoonTable> lastFree() {
        return Tables.of(FOUR, UNSURE, "tried a b fed", "tried a c fed", "tried b c fed");
    }

    private static void fits() {
        Edge.promise(37, "FITS: how many.");
        Edge.answers("nothing unsure, nothing tried", Tables::alone, SpoonTable::fits, 1);
        Edge.answers("nothing unsure, as tried", Tables.of(FOUR, "tried a b fed"), SpoonTable::fits, 1);
        Edge.answers("nothing unsure, not as tried", noFits("fork 0"), SpoonTable::fits, 0);
        Edge.answers("unsure, not as tried", noFits("unsure a b 5"), SpoonTable::fits, 0);
        Edge.answers("one unsure", Tables.of(FOUR, "unsure a b 5"), SpoonTable::fits, 2);
        Edge.answers("the other years are the same", Tables.of(FOUR, "unsure a b 1", "tried a b fed"), SpoonTable::fits, 2);
        Edge.answers("four unsure: the most", sixteen(), SpoonTable::fits, 16);
        Edge.answers("only one of sixteen", allOther(), SpoonTable::fits, 1);
        Edge.promise(37, "NONE: 1 (no TABLE).");
        Edge.noTable("fits()", SpoonTable::fits, -1);
    }

    private static void fitAt() {
        Edge.promise(38, "The i-th, by bits of unsure PAIRS as told.");
        Edge.answers("the empty one", Tables::alone, x -> x.fitAt(0), 0);
        for (int i = 0; i < 16; i++) {
            int asked = i;
            Edge.answers("fitAt(" + i + ") of sixteen", sixteen(), x -> x.fitAt(asked), i);
        }
        Edge.answers("all four", allOther(), x -> x.fitAt(0), 15);
        Edge.answers("none, or the last", lastFree(), x -> x.fitAt(1), 8);
    }

    private static void noFitAt() {
        Edge.promise(38, "NONE: 1 (i, too).");
        Edge.noTable("fitAt(0)", x -> x.fitAt(0), -1);
        Edge.outside("fitAt()", Tables::alone, 0, 0, SpoonTable::fitAt, -1, 1);
        Edge.outside("fitAt()", sixteen(), 0, 15, SpoonTable::fitAt, -1, 1);
        Edge.outside("fitAt() of none", noFits("unsure a b 5"), 0, -1, SpoonTable::fitAt, -1, 1);
        Edge.outside("fitAt()", Tables::busy, 0, -1, SpoonTable::fitAt, -1, 1);
    }

    private static void could() {
        Edge.promise(39, "Unsure PAIRS in some, as bits likewise.");
        Edge.answers("nothing unsure", Tables::alone, SpoonTable::could, 0);
        Edge.answers("no set", noFits("unsure a b 5"), SpoonTable::could, 0);
        Edge.answers("all", sixteen(), SpoonTable::could, 15);
        Edge.answers("all, in the only set", allOther(), SpoonTable::could, 15);
        Edge.answers("the last alone", lastFree(), SpoonTable::could, 8);
        Edge.promise(39, "NONE: 1 (no TABLE).");
        Edge.noTable("could()", SpoonTable::could, -1);
    }

    private static void surely() {
        Edge.promise(40, "Unsure PAIRS in all (0 without a set), as bits likewise.");
        Edge.answers("nothing unsure", Tables::alone, SpoonTable::surely, 0);
        Edge.answers("no set", noFits("unsure a b 5"), SpoonTable::surely, 0);
        Edge.answers("none is in all", sixteen(), SpoonTable::surely, 0);
        Edge.answers("all, in the only set", allOther(), SpoonTable::surely, 15);
        Edge.answers("some, in the only set", someOther("tried a d starved"), SpoonTable::surely, 5);
        Edge.answers("some, in two sets", someOther("fork 0"), SpoonTable::surely, 5);
        Edge.answers("the first alone", Tables.of(FOUR, UNSURE, "tried a b starved"), SpoonTable::surely, 1);
        Edge.answers("the last alone", Tables.of(FOUR, UNSURE, "tried a d fed"), SpoonTable::surely, 8);
        Edge.promise(40, "NONE: 1 (no TABLE).");
        Edge.noTable("surely()", SpoonTable::surely, -1);
    }

    private static void ask() {
        Edge.promise(41, "ASK; -2 no FITS, no unsure PAIR.");
        Edge.answers("no unsure pair", Tables::alone, SpoonTable::ask, -2);
        Edge.answers("no fits, though a pair is unsure", noFits("unsure a b 5"), SpoonTable::ask, -2);
        Edge.answers("neither", noFits("fork 0"), SpoonTable::ask, -2);
        Edge.answers("like ones: the first", sixteen(), SpoonTable::ask, 0);
        Edge.answers("the last", lastFree(), SpoonTable::ask, 3);
        Edge.answers("not one that is in all", someOther("fork 0"), SpoonTable::ask, 3);
        Edge.answers("nothing left to ask: the first", allOther(), SpoonTable::ask, 0);
        Edge.promise(41, "NONE: 1 (no TABLE).");
        Edge.noTable("ask()", SpoonTable::ask, -1);
    }

    private static void askLeaves() {
        Edge.promise(42, "How many are left at most then; -2 likewise.");
        Edge.answers("no unsure pair", Tables::alone, SpoonTable::askLeaves, -2);
        Edge.answers("no fits, though a pair is unsure", noFits("unsure a b 5"), SpoonTable::askLeaves, -2);
        Edge.answers("the most", sixteen(), SpoonTable::askLeaves, 8);
        Edge.answers("the fewest", lastFree(), SpoonTable::askLeaves, 1);
        Edge.answers("the fewest, some being in all", someOther("fork 0"), SpoonTable::askLeaves, 1);
        Edge.answers("the only one stays", allOther(), SpoonTable::askLeaves, 1);
        Edge.promise(42, "NONE: 1 (no TABLE).");
        Edge.noTable("askLeaves()", SpoonTable::askLeaves, -1);
    }

    private static void judge() {
        Edge.promise(43, "The first tried, as told, that isn't so by years as told; -2.");
        Edge.answers("nothing tried", Tables::alone, SpoonTable::judge, -2);
        Edge.answers("all six so", Tables.of(FOUR, ALL_SO + "tried c d starved"), SpoonTable::judge, -2);
        Edge.answers("the sixth isn't", Tables.of(FOUR, ALL_SO + "tried c d fed"), SpoonTable::judge, 5);
        Edge.answers("the first isn't", Tables.of(FOUR, "tried c d fed;" + ALL_SO + "fork 0"), SpoonTable::judge, 0);
        Edge.answers("two aren't: the first of them", Tables.of(FOUR, "tried a b fed", "tried b d fed", "tried c d fed"),
            SpoonTable::judge, 1);
        Edge.answers("by years as told, not the other ones", allOther(), SpoonTable::judge, 0);
        SpoonTable x = Tables.of(FOUR, ALL_SO + "tried c d starved").get();
        x.year();
        x.sit(0, 9);
        Edge.due("nor by years and seats now", x.judge(), -2);
        Edge.promise(43, "NONE: 1 (no TABLE).");
        Edge.noTable("judge()", SpoonTable::judge, -1);
    }
}
