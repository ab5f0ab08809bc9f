import java.util.function.Supplier;

/** Promises 51 to 57 at their edges: acts, undoing, images. */
public final class EdgeActsTest {
    public static void main(String[] args) {
        year();
        lastYear();
        quarrel();
        noQuarrel();
        sit();
        noSit();
        know();
        noKnow();
        undo();
        undoOfSixteen();
        undoBehindMany();
        noUndo();
        seatsAnew();
        image();
        noImage();
        back();
        noBack();
        Edge.end(51, 57);
    }

    private static Supplier<SpoonTable> two(int saw, int far, int years, String kind) {
        return Tables.of("seats 10 slack 0 saw " + saw + " quarrel 50", "person a at 0", "person b at " + far,
            "known a b years " + years + " " + kind);
    }

    // ---- years

    private static void year() {
        Edge.promise(51, "YEAR: how many are FED then.");
        SpoonTable x = Edge.acts("one alone", Tables::alone, SpoonTable::year, 0);
        Edge.due("gone by", x.size(9), 1);
        Edge.due("acts", x.size(10), 1);
        x = Edge.acts("they come to feed", two(1, 9, 8, "plain"), SpoonTable::year, 2);
        Edge.due("years", x.pair(0, 2), 9);
        Edge.due("handle", x.pair(0, 3), 9);
        Edge.acts("they feed no more", two(1, 9, 9, "plain"), SpoonTable::year, 0);
        x = Edge.acts("ringed", two(1, 1, 99, "ringed"), SpoonTable::year, 2);
        Edge.due("years of a ring", x.pair(0, 2), 100);
        Edge.due("handle of a ring", x.pair(0, 3), 1);
        x = Tables.full();
        int[] years = new int[10];
        for (int k = 0; k < 10; k++) {
            years[k] = x.pair(k, 2);
        }
        x.year();
        for (int k = 0; k < 10; k++) {
            Edge.due("years of " + k, x.pair(k, 2), years[k] + 1);
        }
    }

    /** More calls than are promised; the words say it all the same. */
    private static SpoonTable gone(int years) {
        SpoonTable x = two(1, 9, 0, "plain").get();
        Tables.years(x, years);
        return x;
    }

    private static void lastYear() {
        Edge.promise(51, "NONE: 1 (no TABLE); 3 (999 went by).");
        Edge.noTable("year()", SpoonTable::year, -1);
        SpoonTable x = Edge.acts("the 999th", () -> gone(998), SpoonTable::year, 0);
        Edge.due("gone by", x.size(9), 999);
        Edge.due("years", x.pair(0, 2), 999);
        Edge.refused("the 1000th", () -> gone(999), SpoonTable::year, -1, 3);
        x = gone(999);
        x.undo();
        Edge.due("undone, there is room", x.year(), 0);
        Edge.due("gone by", x.size(9), 999);
        Edge.due("and then none", x.year(), -1);
    }

    // ---- quarrels

    private static void quarrelled(int saw, int years, int handle, int sawn) {
        String what = "saw " + saw + " of " + years;
        SpoonTable x = Edge.acts(what, two(saw, 9, years, "plain"), y -> y.quarrel(0), handle);
        Edge.due(what + ": handle", x.pair(0, 3), handle);
        Edge.due(what + ": sawn", x.pair(0, 5), sawn);
        Edge.due(what + ": years", x.pair(0, 2), years);
        Edge.due(what + ": acts", x.size(10), 1);
        x.year();
        Edge.due(what + ": a year on", x.pair(0, 3), handle + 1);
    }

    private static void quarrel() {
        Edge.promise(52, "QUARREL (SAWN as above): its HANDLE then.");
        quarrelled(1, 1, 0, 1);
        quarrelled(1, 99, 98, 1);
        quarrelled(9, 1, 0, 1);
        quarrelled(9, 8, 0, 8);
        quarrelled(9, 9, 0, 9);
        quarrelled(9, 10, 1, 9);
        SpoonTable x = Edge.acts("hinged", two(2, 9, 3, "hinged"), y -> y.quarrel(0), 1);
        Edge.due("again, all it has", x.quarrel(0), 0);
        Edge.due("sawn together", x.pair(0, 5), 3);
        x.year();
        Edge.due("again, the inch that grew", x.quarrel(0), 0);
        Edge.due("sawn together", x.pair(0, 5), 4);
    }

    private static SpoonTable sawnToNothing() {
        SpoonTable x = two(9, 9, 9, "hinged").get();
        x.quarrel(0);
        return x;
    }

    private static void noQuarrel() {
        Edge.promise(52, "NONE: 1; 5 (ringed, or of 0).");
        Edge.noTable("quarrel(0)", x -> x.quarrel(0), -1);
        Edge.refused("quarrel(0) of nobody known", Tables::alone, x -> x.quarrel(0), -1, 1);
        Edge.outside("quarrel()", Tables::busy, 0, 1, SpoonTable::quarrel, -1, 1);
        Edge.outside("quarrel()", Tables::full, 0, 9, SpoonTable::quarrel, -1, 1);
        Edge.refused("a ring", Tables::busy, x -> x.quarrel(1), -1, 5);
        Edge.refused("a ring of 0 years", two(1, 1, 0, "ringed"), x -> x.quarrel(0), -1, 5);
        Edge.refused("of 0 as told", two(1, 1, 0, "plain"), x -> x.quarrel(0), -1, 5);
        Edge.refused("of 0, hinged", two(1, 1, 0, "hinged"), x -> x.quarrel(0), -1, 5);
        Edge.refused("of 0 as sawn", EdgeActsTest::sawnToNothing, x -> x.quarrel(0), -1, 5);
        SpoonTable x = Tables.busy();
        x.know(0, 2);
        Edge.due("of 0, known now", x.quarrel(2), -1);
        Edge.due("trouble()", x.trouble(), 5);
    }

    // ---- seats

    private static void sit() {
        Edge.promise(53, "SIT: where one sat.");
        SpoonTable x = Edge.acts("to the first seat", Tables::alone, y -> y.sit(0, 0), 1);
        Edge.due("seat(0)", x.seat(0), 0);
        Edge.due("acts", x.size(10), 1);
        Edge.due("and back", x.sit(0, 1), 0);
        x = Edge.acts("to the last seat", Tables::full, y -> y.sit(4, 9), 8);
        Edge.due("seat(4)", x.seat(4), 9);
        x = Edge.acts("to a seat with a fork", Tables::full, y -> y.sit(0, 1), 2);
        Edge.due("the fork stays", x.size(5), 4);
        Edge.acts("to a seat that one left", Tables::busy, y -> y.sit(0, 5), 0);
    }

    private static void noSit() {
        Edge.promise(53, "NONE: 1; 2 (no such SEAT); 5 (somebody sits there, oneself, too).");
        Edge.noTable("sit(0, 0)", x -> x.sit(0, 0), -1);
        Edge.noTable("sit(0, -1)", x -> x.sit(0, -1), -1);
        Edge.outside("sit(.., 0)", Tables::alone, 0, 0, (x, p) -> x.sit(p, 0), -1, 1);
        Edge.outside("sit(.., 6), no such seat, too", Tables::busy, 0, 2, (x, p) -> x.sit(p, 6), -1, 1);
        Edge.outside("sit(.., 8), taken, too", Tables::full, 0, 4, (x, p) -> x.sit(p, 8), -1, 1);
        Edge.outside("sit(0, ..)", Tables::alone, 0, 1, (x, seat) -> x.sit(0, seat), -1, 2);
        Edge.outside("sit(2, ..)", Tables::busy, 0, 5, (x, seat) -> x.sit(2, seat), -1, 2);
        Edge.outside("sit(4, ..)", Tables::full, 0, 9, (x, seat) -> x.sit(4, seat), -1, 2);
        Edge.refused("somebody, at the first seat", Tables::busy, x -> x.sit(2, 0), -1, 5);
        Edge.refused("somebody, who came there", Tables::busy, x -> x.sit(0, 4), -1, 5);
        Edge.refused("oneself", Tables::busy, x -> x.sit(2, 4), -1, 5);
        Edge.refused("oneself, alone", Tables::alone, x -> x.sit(0, 1), -1, 5);
        SpoonTable x = Tables.of("seats 2 slack 0 saw 1 quarrel 0", "person a at 0", "person b at 1").get();
        for (int p = 0; p < 2; p++) {
            for (int seat = 0; seat < 2; seat++) {
                Edge.due("no seat is free", x.sit(p, seat), -1);
                Edge.due("trouble()", x.trouble(), 5);
            }
        }
    }

    // ---- acquaintances

    private static void know() {
        Edge.promise(54, "KNOW: the PAIR's number.");
        Supplier<SpoonTable> strangers = Tables.of("seats 10 slack 0 saw 1 quarrel 0", "person a at 0", "person b at 1",
            "person c at 2", "person d at 3", "person e at 4");
        SpoonTable x = Edge.acts("the first", strangers, y -> y.know(4, 3), 0);
        Edge.due("the one", x.pair(0, 0), 4);
        Edge.due("the other one", x.pair(0, 1), 3);
        x = strangers.get();
        int number = 0;
        for (int p = 0; p < 5; p++) {
            for (int q = p + 1; q < 5; q++) {
                Edge.due("know(" + p + ", " + q + ")", x.know(p, q), number);
                Edge.due("trouble()", x.trouble(), 0);
                number++;
            }
        }
        Edge.due("ten pairs", x.size(6), 10);
        Edge.due("the tenth", x.pairOf(4, 3), 9);
        for (int what = 2; what <= 5; what++) {
            Edge.due("pair(9, " + what + ")", x.pair(9, what), 0);
        }
        Edge.acts("behind those told", Tables::busy, y -> y.know(2, 0), 2);
    }

    private static void noKnow() {
        Edge.promise(54, "NONE: 1 (unlike); 5 (they do).");
        Edge.noTable("know(0, 1)", x -> x.know(0, 1), -1);
        Edge.refused("know(0, 0) of one", Tables::alone, x -> x.know(0, 0), -1, 1);
        Edge.refused("know(2, 2)", Tables::busy, x -> x.know(2, 2), -1, 1);
        Edge.outside("know(.., 1)", Tables::busy, 0, 2, (x, p) -> x.know(p, 1), -1, 1);
        Edge.outside("know(1, ..)", Tables::busy, 0, 2, (x, p) -> x.know(1, p), -1, 1);
        Edge.outside("know(.., 4)", Tables::full, 0, 4, (x, p) -> x.know(p, 4), -1, 1);
        Edge.refused("they do, as told", Tables::busy, x -> x.know(0, 1), -1, 5);
        Edge.refused("they do, turned", Tables::busy, x -> x.know(2, 1), -1, 5);
        for (int p = 0; p < 5; p++) {
            for (int q = 0; q < 5; q++) {
                int one = p;
                int other = q;
                Edge.refused("all know all: " + p + ", " + q, Tables::full, x -> x.know(one, other), -1, p == q ? 1 : 5);
            }
        }
        SpoonTable x = Tables.busy();
        x.know(0, 2);
        Edge.due("they do since", x.know(2, 0), -1);
        Edge.due("trouble()", x.trouble(), 5);
        x.undo();
        Edge.due("undone, they don't", x.know(2, 0), 2);
    }

    // ---- undoing

    private static void undo() {
        Edge.promise(55, "UNDO: true; false: 6.");
        SpoonTable x = Edge.acts("undo() of three", Tables::busy, y -> y.undo() ? 1 : 0, 1);
        Edge.due("sit is undone", x.seat(2), 5);
        Edge.due("acts", x.size(10), 2);
        Edge.due("undo()", x.undo(), true);
        Edge.due("quarrel is undone: handle", x.pair(0, 3), 5);
        Edge.due("quarrel is undone: sawn", x.pair(0, 5), 0);
        Edge.due("undo()", x.undo(), true);
        Edge.due("year is undone", x.size(9), 0);
        Edge.due("year is undone: years", x.pair(1, 2), 9);
        Edge.due("none is left", x.undo(), false);
        Edge.due("trouble()", x.trouble(), 6);
        Edge.due("images stay", x.size(11), 2);
    }

    /** The acts of a run: seats, so that each state is another. */
    private static SpoonTable moved(int acts) {
        SpoonTable x = Tables.alone10();
        for (int i = 1; i <= acts; i++) {
            x.sit(0, i % 10);
        }
        return x;
    }

    private static void undoOfSixteen() {
        Edge.promise(55, "UNDO: true; false: 6.");
        for (int acts : new int[] {0, 1, 15, 16, 17, 31, 32, 33}) {
            SpoonTable x = moved(acts);
            int kept = Math.min(acts, 16);
            Edge.due("acts kept of " + acts, x.size(10), kept);
            for (int i = 1; i <= kept; i++) {
                Edge.due("undo " + i + " of " + acts, x.undo(), true);
                Edge.due("seat behind undo " + i + " of " + acts, x.seat(0), (acts - i) % 10);
                Edge.due("acts left", x.size(10), kept - i);
            }
            Edge.due("no more of " + acts, x.undo(), false);
            Edge.due("trouble()", x.trouble(), 6);
            Edge.due("seat stays", x.seat(0), (acts - kept) % 10);
        }
    }

    private static void undoBehindMany() {
        Edge.promise(55, "UNDO: true; false: 6.");
        SpoonTable x = moved(20);
        for (int i = 0; i < 10; i++) {
            x.undo();
        }
        x.year();
        Edge.due("six, and one more", x.size(10), 7);
        for (int i = 0; i < 7; i++) {
            Edge.due("undo()", x.undo(), true);
        }
        Edge.due("no more", x.undo(), false);
        Edge.due("seat behind the first four", x.seat(0), 4);
        Edge.due("gone by", x.size(9), 0);
    }

    private static void noUndo() {
        Edge.promise(55, "UNDO: true; false: 6.");
        Edge.refused("no TABLE", SpoonTable::new, x -> x.undo() ? 1 : 0, 0, 6);
        Edge.refused("no TABLE, with a tape", Tables::onlyTape, x -> x.undo() ? 1 : 0, 0, 6);
        Edge.refused("no act yet", Tables::alone, x -> x.undo() ? 1 : 0, 0, 6);
        Edge.refused("gone back", EdgeActsTest::goneBack, x -> x.undo() ? 1 : 0, 0, 6);
        SpoonTable x = Tables.alone();
        x.sit(0, 1);
        x.quarrel(0);
        x.know(0, 0);
        x.image();
        Edge.due("what was refused is no act, nor is an image", x.undo(), false);
    }

    /** What all would sit by is found anew behind whatever changes it: a b are to sit so far apart. */
    private static void seatsAnew() {
        Edge.promise(55, "UNDO: true; false: 6.");
        SpoonTable x = Tables.of("seats 10 slack 0 saw 2 quarrel 50", "person a at 9", "person b at 8", "person c at 7",
            "known a b years 3 plain").get();
        x.image();
        seatOfB(x, "at first", 3);
        x.year();
        seatOfB(x, "behind a year", 4);
        x.quarrel(0);
        seatOfB(x, "behind a quarrel", 2);
        x.undo();
        seatOfB(x, "the quarrel undone", 4);
        x.undo();
        seatOfB(x, "the year undone", 3);
        x.sit(0, 5);
        x.know(1, 2);
        x.year();
        // Now b c are an inch, a b four.
        seatOfB(x, "with an acquaintance", 1);
        x.back(0);
        seatOfB(x, "gone back", 3);
    }

    private static void seatOfB(SpoonTable x, String what, int seat) {
        Edge.due("fed " + what, x.seating(), 2);
        Edge.due("b's seat " + what, x.seatAt(1), seat);
    }

    // ---- images

    private static SpoonTable goneBack() {
        SpoonTable x = Tables.busy();
        x.back(0);
        return x;
    }

    private static void image() {
        Edge.promise(56, "An IMAGE: its number.");
        SpoonTable x = Edge.acts("the first", Tables::alone, SpoonTable::image, 0);
        Edge.due("images", x.size(11), 1);
        Edge.due("it is no act", x.size(10), 0);
        Edge.due("the second", x.image(), 1);
        Edge.due("the third", x.image(), 2);
        Edge.due("images", x.size(11), 3);
        x = Edge.acts("the third, behind acts", Tables::busy, SpoonTable::image, 2);
        Edge.due("acts stay", x.size(10), 3);
        Edge.due("undo() stays", x.undo(), true);
    }

    private static void noImage() {
        Edge.promise(56, "NONE: 1 (no TABLE); 3.");
        Edge.noTable("image()", SpoonTable::image, -1);
        Edge.refused("a fourth", Tables::full, SpoonTable::image, -1, 3);
        SpoonTable x = Tables.full();
        x.back(0);
        Edge.due("a fourth, gone back to the first", x.image(), -1);
        Edge.due("trouble()", x.trouble(), 3);
        Check.lay(x, "");
        x.table(0);
        Edge.due("a fourth, behind a FAULT", x.image(), -1);
        Check.lay(x, Tables.SMALL);
        Edge.due("the first of a new TABLE", x.image(), 0);
    }

    private static void back() {
        Edge.promise(57, "All is as by an IMAGE (all IMAGES stay): true;");
        SpoonTable x = Edge.acts("the first", Tables::full, y -> y.back(0) ? 1 : 0, 1);
        // Five years had gone by; a b sawn by all 5 behind the third, e at 8.
        fullIs(x, 5, 0, 2, 8);
        x = Edge.acts("the second", Tables::full, y -> y.back(1) ? 1 : 0, 1);
        fullIs(x, 9, 0, 3, 8);
        x = Edge.acts("the last", Tables::full, y -> y.back(2) ? 1 : 0, 1);
        fullIs(x, 11, 2, 3, 8);
        Edge.due("an act", x.year() >= 0, true);
        Edge.due("acts", x.size(10), 1);
        Edge.due("back to the same", x.back(2), true);
        fullIs(x, 11, 2, 3, 8);
        Edge.due("back to the first", x.back(0), true);
        fullIs(x, 5, 0, 2, 8);
        Edge.due("back to the last again", x.back(2), true);
        fullIs(x, 11, 2, 3, 8);
        x = Tables.busy();
        x.know(0, 2);
        x.back(1);
        Edge.due("known since, unknown by the image", x.size(6), 2);
        Edge.due("the same number again", x.know(2, 0), 2);
        Edge.due("nothing sawn of it", x.pair(2, 5), 0);
    }

    private static void fullIs(SpoonTable x, int gone, int seatOfA, int seatOfB, int seatOfE) {
        Edge.due("gone by", x.size(9), gone);
        Edge.due("acts", x.size(10), 0);
        Edge.due("images", x.size(11), 3);
        Edge.due("the tape stays", x.size(12), 800);
        Edge.due("a's seat", x.seat(0), seatOfA);
        Edge.due("b's seat", x.seat(1), seatOfB);
        Edge.due("e's seat", x.seat(4), seatOfE);
        Edge.due("sawn of a b", x.pair(0, 5), 5);
        Edge.due("years of a c", x.pair(1, 2), 99 + gone);
    }

    private static void noBack() {
        Edge.promise(57, "false: 1.");
        Edge.outside("back() without a TABLE", SpoonTable::new, 0, -1, (x, i) -> x.back(i) ? 1 : 0, 0, 1);
        Edge.outside("back() without an image", Tables::alone, 0, -1, (x, i) -> x.back(i) ? 1 : 0, 0, 1);
        Edge.outside("back() of two", Tables::busy, 0, 1, (x, i) -> x.back(i) ? 1 : 0, 0, 1);
        Edge.outside("back() of three", Tables::full, 0, 2, (x, i) -> x.back(i) ? 1 : 0, 0, 1);
    }
}
