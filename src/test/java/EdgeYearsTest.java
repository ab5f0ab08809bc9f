import java.util.function.Supplier;

/** Promises 17 to 22 at their edges: years to come. */
public final class EdgeYearsTest {
    private static final String BOTH = "known c d years 0 hinged";

    public static void main(String[] args) {
        handleIn();
        noHandleIn();
        feedsIn();
        feedsOften();
        fedIn();
        noFedIn();
        bestYear();
        allIn();
        Edge.end(17, 22);
    }

    private static Supplier<SpoonTable> two(int slack, int far, int years, String kind) {
        return Tables.of("seats 10 slack " + slack + " saw 9 quarrel 0", "person a at 0", "person b at " + far,
            "known a b years " + years + " " + kind);
    }

    private static SpoonTable sawnToNothing() {
        SpoonTable x = two(0, 9, 9, "plain").get();
        x.quarrel(0);
        return x;
    }

    private static void handleIn() {
        Edge.promise(17, "HANDLE behind n years (0 .. 60).");
        Edge.answers("0 years", two(0, 1, 99, "plain"), x -> x.handleIn(0, 0), 99);
        Edge.answers("60 years", two(0, 1, 99, "plain"), x -> x.handleIn(0, 60), 159);
        Edge.answers("hinged, 60 years", two(0, 1, 0, "hinged"), x -> x.handleIn(0, 60), 60);
        Edge.answers("ringed, 0 years", two(0, 1, 99, "ringed"), x -> x.handleIn(0, 0), 1);
        Edge.answers("ringed, 60 years", two(0, 1, 0, "ringed"), x -> x.handleIn(0, 60), 1);
        Edge.answers("sawn to nothing, 0 years", EdgeYearsTest::sawnToNothing, x -> x.handleIn(0, 0), 0);
        Edge.answers("sawn to nothing, 1 year", EdgeYearsTest::sawnToNothing, x -> x.handleIn(0, 1), 1);
        Edge.answers("the tenth pair", Tables::full, x -> x.handleIn(9, 60), 74);
    }

    private static void noHandleIn() {
        Edge.promise(17, "NONE: 1; 2.");
        Edge.noTable("handleIn(0, 0)", x -> x.handleIn(0, 0), -1);
        Edge.noTable("handleIn(0, 61)", x -> x.handleIn(0, 61), -1);
        Edge.outside("handleIn(.., 0)", Tables::busy, 0, 1, (x, k) -> x.handleIn(k, 0), -1, 1);
        Edge.outside("handleIn(.., 61)", Tables::busy, 0, 1, (x, k) -> x.handleIn(k, 61), -1, 1);
        Edge.outside("handleIn(.., 60)", Tables::full, 0, 9, (x, k) -> x.handleIn(k, 60), -1, 1);
        Edge.outside("handleIn(0, ..)", Tables::busy, 0, 60, (x, n) -> x.handleIn(0, n), -1, 2);
        Edge.outside("handleIn(9, ..)", Tables::full, 0, 60, (x, n) -> x.handleIn(9, n), -1, 2);
    }

    private static void feedsIn() {
        Edge.promise(18, "Behind how many years (0 .. 60) a PAIR can FEED first; -2.");
        Edge.answers("now", two(0, 9, 9, "plain"), x -> x.feedsIn(0), 0);
        Edge.answers("a year on", two(0, 9, 8, "plain"), x -> x.feedsIn(0), 1);
        Edge.answers("the longest while", two(0, 9, 0, "plain"), x -> x.feedsIn(0), 9);
        Edge.answers("never: an inch too long", two(0, 9, 10, "plain"), x -> x.feedsIn(0), -2);
        Edge.answers("by slack: the last inch", two(3, 9, 12, "plain"), x -> x.feedsIn(0), 0);
        Edge.answers("never: an inch more", two(3, 9, 13, "plain"), x -> x.feedsIn(0), -2);
        Edge.answers("hinged: by the half, later", two(0, 9, 10, "hinged"), x -> x.feedsIn(0), 8);
        Edge.answers("hinged: the half's last inch", two(0, 9, 19, "hinged"), x -> x.feedsIn(0), 0);
        Edge.answers("hinged: never", two(0, 9, 20, "hinged"), x -> x.feedsIn(0), -2);
        Edge.answers("ringed: now", two(0, 1, 0, "ringed"), x -> x.feedsIn(0), 0);
        Edge.answers("ringed: never", two(0, 2, 0, "ringed"), x -> x.feedsIn(0), -2);
        Edge.answers("sawn to nothing", EdgeYearsTest::sawnToNothing, x -> x.feedsIn(0), 9);
        Edge.promise(18, "NONE: 1.");
        Edge.noTable("feedsIn(0)", x -> x.feedsIn(0), -1);
        Edge.refused("feedsIn(0) of nobody known", Tables::alone, x -> x.feedsIn(0), -1, 1);
        Edge.outside("feedsIn()", Tables::busy, 0, 1, SpoonTable::feedsIn, -1, 1);
        Edge.outside("feedsIn()", Tables::full, 0, 9, SpoonTable::feedsIn, -1, 1);
    }

    private static void feedsOften() {
        Edge.promise(19, "In how many of the years 0 .. 60 it can.");
        Edge.answers("never", two(0, 9, 10, "plain"), x -> x.feedsOften(0), 0);
        Edge.answers("in the first alone", two(0, 9, 9, "plain"), x -> x.feedsOften(0), 1);
        Edge.answers("by slack 3: 6 .. 12", two(3, 9, 0, "plain"), x -> x.feedsOften(0), 7);
        Edge.answers("by its end alone", two(3, 9, 12, "plain"), x -> x.feedsOften(0), 1);
        // 9; 18 and 19.
        Edge.answers("hinged", two(0, 9, 0, "hinged"), x -> x.feedsOften(0), 3);
        // 6 .. 12 and 12 .. 25, 12 once.
        Edge.answers("hinged, slack 3", two(3, 9, 0, "hinged"), x -> x.feedsOften(0), 20);
        Edge.answers("ringed: in all, 0 and 60, too", two(0, 1, 9, "ringed"), x -> x.feedsOften(0), 61);
        Edge.answers("ringed: never", two(0, 2, 9, "ringed"), x -> x.feedsOften(0), 0);
        Edge.promise(19, "NONE: 1.");
        Edge.noTable("feedsOften(0)", x -> x.feedsOften(0), -1);
        Edge.refused("feedsOften(0) of nobody known", Tables::alone, x -> x.feedsOften(0), -1, 1);
        Edge.outside("feedsOften()", Tables::busy, 0, 1, SpoonTable::feedsOften, -1, 1);
        Edge.outside("feedsOften()", Tables::full, 0, 9, SpoonTable::feedsOften, -1, 1);
    }

    private static void fedIn() {
        Edge.promise(20, "How many are FED by the BEST MATCH behind n years (0 .. 60).");
        Edge.answers("one alone, 0", Tables::alone, x -> x.fedIn(0), 0);
        Edge.answers("one alone, 60", Tables::alone, x -> x.fedIn(60), 0);
        Edge.answers("ringed, 0", two(0, 1, 0, "ringed"), x -> x.fedIn(0), 2);
        Edge.answers("ringed, 60", two(0, 1, 0, "ringed"), x -> x.fedIn(60), 2);
        Edge.answers("a year early", two(0, 9, 0, "plain"), x -> x.fedIn(8), 0);
        Edge.answers("in the year", two(0, 9, 0, "plain"), x -> x.fedIn(9), 2);
        Edge.answers("a year late", two(0, 9, 0, "plain"), x -> x.fedIn(10), 0);
        Edge.answers("four of five", Tables::allFeed, x -> x.fedIn(0), 4);
    }

    private static void noFedIn() {
        Edge.promise(20, "NONE: 1 (no TABLE); 2.");
        Edge.noTable("fedIn(0)", x -> x.fedIn(0), -1);
        Edge.noTable("fedIn(61)", x -> x.fedIn(61), -1);
        Edge.outside("fedIn()", Tables::alone, 0, 60, SpoonTable::fedIn, -1, 2);
        Edge.outside("fedIn()", Tables::busy, 0, 60, SpoonTable::fedIn, -1, 2);
        Edge.outside("fedIn()", Tables::full, 0, 60, SpoonTable::fedIn, -1, 2);
    }

    /** a b can feed behind 5, 14 and 15 years, c d behind 7, 14 and 15; and the lines that are added. */
    private static Supplier<SpoonTable> late(String... more) {
        String text = "seats 10 slack 0 saw 1 quarrel 0;person a at 0;person b at 9;person c at 1;person d at 8;known a b years 4 hinged";
        return Tables.of(text, String.join(";", more));
    }

    private static void bestYear() {
        Edge.promise(21, "Behind how many years (0 .. 60) most are FED, first.");
        Edge.answers("one alone", Tables::alone, SpoonTable::bestYear, 0);
        Edge.answers("nobody ever", two(0, 9, 10, "plain"), SpoonTable::bestYear, 0);
        Edge.answers("all years alike", two(0, 1, 0, "ringed"), SpoonTable::bestYear, 0);
        Edge.answers("the first of three", two(0, 9, 0, "hinged"), SpoonTable::bestYear, 9);
        Edge.answers("by the half", two(0, 9, 10, "hinged"), SpoonTable::bestYear, 8);
        Edge.answers("most, not the first that feeds some", late(BOTH), SpoonTable::bestYear, 14);
        Edge.answers("a year ahead", late(BOTH), x -> x.fedIn(13), 0);
        Edge.answers("the year", late(BOTH), x -> x.fedIn(14), 4);
        Edge.promise(21, "NONE: 1 (no TABLE).");
        Edge.noTable("bestYear()", SpoonTable::bestYear, -1);
    }

    private static void allIn() {
        Edge.promise(22, "Behind how many years (0 .. 60) at most one isn't, first; -2.");
        Edge.answers("one alone", Tables::alone, SpoonTable::allIn, 0);
        Edge.answers("two strangers", Tables.of("seats 2 slack 0 saw 1 quarrel 0", "person a at 0", "person b at 1"),
            SpoonTable::allIn, -2);
        Edge.answers("two, now", two(0, 9, 9, "plain"), SpoonTable::allIn, 0);
        Edge.answers("two, at the latest", two(0, 9, 0, "plain"), SpoonTable::allIn, 9);
        Edge.answers("two, never", two(0, 9, 10, "plain"), SpoonTable::allIn, -2);
        Edge.answers("one of five isn't", Tables::allFeed, SpoonTable::allIn, 0);
        Edge.answers("none of four isn't", late(BOTH), SpoonTable::allIn, 14);
        Edge.answers("one of five isn't, late", late(BOTH, "person e at 5"), SpoonTable::allIn, 14);
        Edge.answers("two of four aren't", late("fork 0"), SpoonTable::allIn, -2);
        Edge.promise(22, "NONE: 1 (no TABLE).");
        Edge.noTable("allIn()", SpoonTable::allIn, -1);
    }
}
