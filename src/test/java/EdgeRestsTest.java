/** Promises 44 to 46 at their edges: saw or sit. */
public final class EdgeRestsTest {
    public static void main(String[] args) {
        saw();
        noSaw();
        rests();
        noRests();
        rest();
        noRest();
        Edge.end(44, 46);
    }

    private static void saw() {
        Edge.promise(44, "What the one (or ofOther, the other) has if each saws or sits, and pride is so much (0 .. 9).");
        for (int pride : new int[] {0, 1, 8, 9}) {
            Edge.answers("both saw, the one, " + pride, Tables::alone, x -> x.saw(pride, true, true, false), -pride);
            Edge.answers("both saw, the other, " + pride, Tables::busy, x -> x.saw(pride, true, true, true), -pride);
            Edge.answers("the one alone saws, he, " + pride, Tables::busy, x -> x.saw(pride, true, false, false), 0);
            Edge.answers("the one alone saws, the other, " + pride, Tables::full, x -> x.saw(pride, true, false, true), 4);
            Edge.answers("the other alone saws, the one, " + pride, Tables::busy, x -> x.saw(pride, false, true, false), 4);
            Edge.answers("the other alone saws, he, " + pride, Tables::busy, x -> x.saw(pride, false, true, true), 0);
            Edge.answers("both sit, the one, " + pride, Tables::full, x -> x.saw(pride, false, false, false), 2);
            Edge.answers("both sit, the other, " + pride, Tables::alone, x -> x.saw(pride, false, false, true), 2);
        }
    }

    private static void noSaw() {
        Edge.promise(44, "-100: 1 (no TABLE); 2.");
        Edge.noTable("saw(0)", x -> x.saw(0, false, false, false), -100);
        Edge.noTable("saw(10)", x -> x.saw(10, true, true, true), -100);
        Edge.outside("saw()", Tables::alone, 0, 9, (x, pride) -> x.saw(pride, true, true, false), -100, 2);
        Edge.outside("saw()", Tables::busy, 0, 9, (x, pride) -> x.saw(pride, false, false, true), -100, 2);
        Edge.outside("saw()", Tables::full, 0, 9, (x, pride) -> x.saw(pride, true, false, true), -100, 2);
    }

    private static void rests() {
        Edge.promise(45, "How many RESTS.");
        // Who sits has 4 against one who saws (0 less pride or 0), and 2 against one who sits (else 0).
        for (int pride : new int[] {0, 1, 8, 9}) {
            Edge.answers("rests(" + pride + ")", Tables::alone, x -> x.rests(pride), 1);
        }
    }

    private static void noRests() {
        Edge.promise(45, "NONE: 1 (no TABLE); 2.");
        Edge.noTable("rests(0)", x -> x.rests(0), -1);
        Edge.noTable("rests(10)", x -> x.rests(10), -1);
        Edge.outside("rests()", Tables::alone, 0, 9, SpoonTable::rests, -1, 2);
        Edge.outside("rests()", Tables::busy, 0, 9, SpoonTable::rests, -1, 2);
    }

    private static void rest() {
        Edge.promise(46, "The first (sitting ahead, the one's first): 10 if the one saws, and 1 if the other does; -2.");
        for (int pride : new int[] {0, 1, 8, 9}) {
            Edge.answers("rest(" + pride + "): both sit", Tables::busy, x -> x.rest(pride), 0);
        }
    }

    private static void noRest() {
        Edge.promise(46, "NONE: likewise.");
        Edge.noTable("rest(0)", x -> x.rest(0), -1);
        Edge.noTable("rest(10)", x -> x.rest(10), -1);
        Edge.outside("rest()", Tables::alone, 0, 9, SpoonTable::rest, -1, 2);
        Edge.outside("rest()", Tables::full, 0, 9, SpoonTable::rest, -1, 2);
    }
}
