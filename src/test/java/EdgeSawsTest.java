import java.util.function.Supplier;

/** Promises 30 to 36 at their edges: saws, acquaintances, who would leave. */
public final class EdgeSawsTest {
    private static final String TEN = "seats 10 slack 0 saw 9 quarrel 0";

    public static void main(String[] args) {
        saws();
        sawsOf();
        noSawsOf();
        meet();
        noMeet();
        meetAt();
        noMeetAt();
        stable();
        stableAt();
        noStableAt();
        leaves();
        Edge.end(30, 36);
    }

    private static Supplier<SpoonTable> two(int slack, int far, int years, String kind) {
        return Tables.of("seats 10 slack " + slack + " saw 9 quarrel 0", "person a at 0", "person b at " + far,
            "known a b years " + years + " " + kind);
    }

    private static Supplier<SpoonTable> strangers(int slack, int far) {
        return Tables.of("seats 10 slack " + slack + " saw 9 quarrel 0", "person a at 0", "person b at " + far);
    }

    /** Three people of whom only a b, b c are known: 1 and 2 apart. */
    private static Supplier<SpoonTable> three(int ab, int bc) {
        return Tables.of(TEN, "person a at 0", "person b at 1", "person c at 3", "known a b years " + ab + " plain",
            "known b c years " + bc + " plain");
    }

    private static void saws() {
        Edge.promise(30, "SAWS: how many inches (0 of one person); -2 it can't be.");
        Edge.answers("one person", Tables::alone, SpoonTable::saws, 0);
        Edge.answers("two strangers", strangers(3, 1), SpoonTable::saws, -2);
        Edge.answers("none to saw", two(0, 1, 1, "plain"), SpoonTable::saws, 0);
        Edge.answers("one, not saw's nine", two(0, 1, 2, "plain"), SpoonTable::saws, 1);
        Edge.answers("the most told", two(0, 1, 99, "plain"), SpoonTable::saws, 98);
        Edge.answers("an inch too short", two(0, 1, 0, "plain"), SpoonTable::saws, -2);
        Edge.answers("short, by slack", two(1, 1, 0, "plain"), SpoonTable::saws, 0);
        Edge.answers("long, by slack", two(3, 1, 5, "plain"), SpoonTable::saws, 1);
        Edge.answers("hinged: the half's lower whole", two(0, 2, 5, "hinged"), SpoonTable::saws, 0);
        Edge.answers("hinged: an inch more", two(0, 2, 6, "hinged"), SpoonTable::saws, 1);
        Edge.answers("hinged: between half and whole", two(0, 2, 3, "hinged"), SpoonTable::saws, 1);
        Edge.answers("hinged: too short", two(0, 2, 1, "hinged"), SpoonTable::saws, -2);
        Edge.answers("ringed: it can", two(0, 1, 99, "ringed"), SpoonTable::saws, 0);
        Edge.answers("ringed: it can't be sawn", two(0, 2, 99, "ringed"), SpoonTable::saws, -2);
        Edge.answers("one pair of three people", three(0, 5), SpoonTable::saws, 3);
        Edge.answers("none to saw, though another could be", three(1, 9), SpoonTable::saws, 0);
        Edge.answers("none to saw, though one ahead could be", three(9, 2), SpoonTable::saws, 0);
        Edge.answers("one pair of four people", Tables.of(TEN, "person a at 0", "person b at 1", "person c at 3", "person d at 4",
            "known a b years 1 plain"), SpoonTable::saws, -2);
        // Of five a b and c d, by 8 and 8.
        Edge.answers("two pairs of five people", Tables.five(TEN, 9, 0, 0, 0, 0, 0, 0, 9, 0, 0),
            SpoonTable::saws, 16);
        Edge.promise(30, "NONE: 1 (no TABLE).");
        Edge.noTable("saws()", SpoonTable::saws, -1);
    }

    private static void sawsOf() {
        Edge.promise(31, "How many of a PAIR by that; 0 it isn't sawn, of the set or not; -2 it can't be.");
        Edge.answers("of the set, sawn", three(9, 3), x -> x.sawsOf(1), 1);
        Edge.answers("not of the set", three(9, 3), x -> x.sawsOf(0), 0);
        Edge.answers("of the set, not sawn", three(1, 9), x -> x.sawsOf(0), 0);
        Edge.answers("too short, but not of the set", three(0, 5), x -> x.sawsOf(0), 0);
        Edge.answers("the other can", three(0, 5), x -> x.sawsOf(1), 3);
        Edge.answers("like ones: the least bits", three(2, 3), x -> 10 * x.sawsOf(0) + x.sawsOf(1), 10);
        Edge.answers("it can't be", three(0, 0), x -> x.sawsOf(0), -2);
        Edge.answers("it can't be, of a ringed one that feeds", Tables.of(TEN, "person a at 0", "person b at 1", "person c at 3",
            "person d at 4", "known a b years 1 ringed"), x -> x.sawsOf(0), -2);
        Supplier<SpoonTable> five = Tables.five(TEN, 0, 0, 0, 0, 9, 0, 0, 0, 0, 2);
        Edge.answers("the tenth pair", five, x -> x.sawsOf(9), 1);
        Edge.answers("the fifth pair", five, x -> x.sawsOf(4), 8);
    }

    private static void noSawsOf() {
        Edge.promise(31, "NONE: 1.");
        Edge.noTable("sawsOf(0)", x -> x.sawsOf(0), -1);
        Edge.refused("sawsOf(0) of nobody known", Tables::alone, x -> x.sawsOf(0), -1, 1);
        Edge.outside("sawsOf()", Tables::busy, 0, 1, SpoonTable::sawsOf, -1, 1);
        Edge.outside("sawsOf()", Tables::full, 0, 9, SpoonTable::sawsOf, -1, 1);
    }

    private static void meet() {
        Edge.promise(32, "MEET: how many two and two; -2 it can't be.");
        Edge.answers("one person, 0", Tables::alone, x -> x.meet(0), 0);
        Edge.answers("one person, 60", Tables::alone, x -> x.meet(60), 0);
        Edge.answers("strangers, 0: by slack", strangers(3, 3), x -> x.meet(0), 1);
        Edge.answers("strangers, 0: too far", strangers(3, 4), x -> x.meet(0), -2);
        Edge.answers("strangers, a year early", strangers(0, 9), x -> x.meet(8), -2);
        Edge.answers("strangers, in the year", strangers(0, 9), x -> x.meet(9), 1);
        Edge.answers("strangers, a year late", strangers(0, 9), x -> x.meet(10), -2);
        Edge.answers("strangers, 60", strangers(3, 9), x -> x.meet(60), -2);
        Edge.answers("ringed, 60", two(0, 1, 0, "ringed"), x -> x.meet(60), 0);
        Edge.answers("known, they can't, and nobody else is there", two(0, 1, 9, "plain"), x -> x.meet(0), -2);
        Edge.answers("one of three may starve", Tables.of(TEN, "person a at 0", "person b at 1", "person c at 5"), x -> x.meet(1), 1);
        Edge.answers("two of four may not", Tables.of(TEN, "person a at 0", "person b at 1", "person c at 5", "person d at 9"),
            x -> x.meet(1), -2);
        Edge.answers("two new ones", Tables.of(TEN, "person a at 0", "person b at 1", "person c at 5", "person d at 6"),
            x -> x.meet(1), 2);
        Edge.answers("all know all", Tables::allFeed, x -> x.meet(0), 0);
    }

    private static void noMeet() {
        Edge.promise(32, "NONE: 1 (no TABLE); 2 (0 .. 60).");
        Edge.noTable("meet(0)", x -> x.meet(0), -1);
        Edge.noTable("meet(61)", x -> x.meet(61), -1);
        Edge.outside("meet()", Tables::alone, 0, 60, SpoonTable::meet, -1, 2);
        Edge.outside("meet()", Tables::busy, 0, 60, SpoonTable::meet, -1, 2);
        Edge.outside("meet()", Tables::full, 0, 60, SpoonTable::meet, -1, 2);
    }

    private static void meetAt() {
        Edge.promise(33, "MEET as bits; -2.");
        Edge.answers("one person, 0", Tables::alone, x -> x.meetAt(0), 0);
        Edge.answers("one person, 60", Tables::alone, x -> x.meetAt(60), 0);
        Edge.answers("the first two", strangers(0, 9), x -> x.meetAt(9), 1);
        Edge.answers("it can't be", strangers(0, 9), x -> x.meetAt(10), -2);
        Edge.answers("nobody need meet", two(0, 1, 0, "ringed"), x -> x.meetAt(60), 0);
        // Of five the twos ab ac ad ae bc bd be cd ce de: b c are known and 3 apart, d e are the last.
        Edge.answers("the last of ten twos", Tables.of(TEN, "person a at 9", "person b at 0", "person c at 3", "person d at 4",
            "person e at 7", "known b c years 0 plain"), x -> x.meetAt(3), 512);
        Edge.answers("like ones: the least bits", Tables.of(TEN, "person a at 1", "person b at 0", "person c at 2"), x -> x.meetAt(1), 1);
        // ac with bd, ab with cd: one new two each, the rings of bd and cd being told.
        Supplier<SpoonTable> rings = Tables.of("seats 10 slack 3 saw 1 quarrel 0", "person a at 0", "person b at 1", "person c at 2",
            "person d at 3", "known b d years 9 ringed", "known c d years 9 ringed");
        Edge.answers("like ones, told later", rings, x -> x.meetAt(0), 1);
        Edge.answers("like ones, how many", rings, x -> x.meet(0), 1);
        // a b by their ring, or a c, or b c.
        Supplier<SpoonTable> ring = Tables.of("seats 10 slack 3 saw 1 quarrel 0", "person a at 0", "person b at 1", "person c at 2",
            "known a b years 9 ringed");
        Edge.answers("none, though others could", ring, x -> x.meetAt(0), 0);
        Edge.answers("none, how many", ring, x -> x.meet(0), 0);
        SpoonTable turns = rings.get();
        for (int i = 0; i < 3; i++) {
            Edge.due("by turns: saws()", turns.saws(), -2);
            Edge.due("by turns: meetAt(0)", turns.meetAt(0), 1);
            Edge.due("by turns: meet(0)", turns.meet(0), 1);
        }
        // The twos of three people are ab ac bc.
        Edge.answers("the last of three twos", Tables.of(TEN, "person a at 9", "person b at 0", "person c at 2"), x -> x.meetAt(2), 4);
    }

    private static void noMeetAt() {
        Edge.promise(33, "NONE: likewise.");
        Edge.noTable("meetAt(0)", x -> x.meetAt(0), -1);
        Edge.noTable("meetAt(61)", x -> x.meetAt(61), -1);
        Edge.outside("meetAt()", Tables::alone, 0, 60, SpoonTable::meetAt, -1, 2);
        Edge.outside("meetAt()", Tables::busy, 0, 60, SpoonTable::meetAt, -1, 2);
        Edge.outside("meetAt()", Tables::full, 0, 60, SpoonTable::meetAt, -1, 2);
    }

    private static void stable() {
        Edge.promise(34, "How many MATCHES NONE LEAVES.");
        Edge.answers("one person: the empty one", Tables::alone, SpoonTable::stable, 1);
        Edge.answers("none can: the empty one", two(0, 1, 0, "plain"), SpoonTable::stable, 1);
        Edge.answers("two: not the empty one", two(0, 1, 1, "plain"), SpoonTable::stable, 1);
        Edge.answers("all of 26", Tables::allFeed, SpoonTable::stable, 1);
        Edge.promise(34, "NONE: 1 (no TABLE).");
        Edge.noTable("stable()", SpoonTable::stable, -1);
    }

    private static void stableAt() {
        Edge.promise(35, "The i-th of them, by bits, the least ahead.");
        Edge.answers("one person", Tables::alone, x -> x.stableAt(0), 0);
        Edge.answers("none can", two(0, 1, 0, "plain"), x -> x.stableAt(0), 0);
        Edge.answers("two", two(0, 1, 1, "plain"), x -> x.stableAt(0), 1);
        // a rather has b, and b a: then c and d.
        Edge.answers("like handles: the lesser numbers", Tables::allFeed, x -> x.stableAt(0), 1 << 7 | 1);
        // d e of 4 years, then b c of 3; a is left.
        Edge.answers("the tenth pair", Tables.five("seats 5 slack 3 saw 1 quarrel 0", 1, 1, 1, 1, 3, 1, 1, 1, 1, 4),
            x -> x.stableAt(0), 1 << 9 | 1 << 4);
    }

    private static void noStableAt() {
        Edge.promise(35, "NONE: 1 (i, too).");
        Edge.noTable("stableAt(0)", x -> x.stableAt(0), -1);
        Edge.outside("stableAt()", Tables::alone, 0, 0, SpoonTable::stableAt, -1, 1);
        Edge.outside("stableAt()", Tables::busy, 0, 0, SpoonTable::stableAt, -1, 1);
        Edge.outside("stableAt()", Tables::full, 0, 0, SpoonTable::stableAt, -1, 1);
    }

    private static void leaves() {
        Edge.promise(36, "The first PAIR, by numbers, that would leave the BEST MATCH (both as told at NONE LEAVES); -2.");
        Edge.answers("one person", Tables::alone, SpoonTable::leaves, -2);
        Edge.answers("two, as they are", two(0, 1, 1, "plain"), SpoonTable::leaves, -2);
        Edge.answers("two who can't", two(0, 1, 0, "plain"), SpoonTable::leaves, -2);
        Edge.answers("the least numbers", Tables::allFeed, SpoonTable::leaves, -2);
        // b at 1, a at 0, c at 3: the best match is a b (1 slopped), b c have the longer handle.
        Supplier<SpoonTable> longer = Tables.of("seats 10 slack 1 saw 1 quarrel 0", "person a at 0", "person b at 1", "person c at 3",
            "known a b years 1 plain", "known b c years 2 plain");
        Edge.answers("the longer handle, one of them not fed", longer, SpoonTable::leaves, 1);
        Edge.answers("the longer handle, told first", Tables.of("seats 10 slack 1 saw 1 quarrel 0", "person a at 0", "person b at 1",
            "person c at 3", "known b c years 2 plain", "known a b years 1 plain"), SpoonTable::leaves, 0);
        // Of like handles b rather has a, though c is not fed.
        Supplier<SpoonTable> like = Tables.of("seats 10 slack 1 saw 1 quarrel 0", "person a at 0", "person b at 1", "person c at 3",
            "known a b years 1 plain", "known b c years 1 plain");
        Edge.answers("like handles", like, SpoonTable::leaves, -2);
        Edge.answers("the tenth pair", Tables.five("seats 5 slack 3 saw 1 quarrel 0", 2, 2, 2, 2, 2, 2, 2, 2, 2, 3),
            SpoonTable::leaves, 9);
        Edge.answers("the first of two", Tables.five("seats 5 slack 3 saw 1 quarrel 0", 2, 2, 2, 2, 2, 2, 2, 2, 3, 3),
            SpoonTable::leaves, 8);
        Edge.promise(36, "NONE: 1 (no TABLE).");
        Edge.noTable("leaves()", SpoonTable::leaves, -1);
    }
}
