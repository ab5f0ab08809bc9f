import java.util.function.Supplier;

/** Promises 23 to 29 at their edges: seats for all, swaps, a better seat, one fork more. */
public final class EdgeSeatsTest {
    private static final String TEN = "seats 10 slack 0 saw 1 quarrel 0";

    public static void main(String[] args) {
        seating();
        seatAt();
        noSeatAt();
        seatSlops();
        swapped();
        notSwapped();
        bestSwap();
        better();
        notBetter();
        forkAt();
        Edge.end(23, 29);
    }

    /** Five people at five seats: only a b at the ends, c d beside them, e between. */
    private static Supplier<SpoonTable> noFreeSeat() {
        return Tables.of("seats 5 slack 0 saw 1 quarrel 0", "person a at 2", "person b at 1", "person c at 0", "person d at 3",
            "person e at 4", "known b a years 4 plain", "known c d years 2 plain");
    }

    /** Five people at ten seats, the two pairs as far as can be. */
    private static Supplier<SpoonTable> wide() {
        return Tables.of(TEN, "person a at 5", "person b at 6", "person c at 7", "person d at 8", "person e at 9",
            "known a b years 9 plain", "known c d years 7 plain");
    }

    private static Supplier<SpoonTable> twoAtTwo(int years) {
        return Tables.of("seats 2 slack 0 saw 1 quarrel 0", "person a at 1", "person b at 0", "known a b years " + years + " plain");
    }

    private static void seating() {
        Edge.promise(23, "SEATING: how many are FED.");
        Edge.answers("one alone", Tables::alone, SpoonTable::seating, 0);
        Edge.answers("two at two seats", twoAtTwo(1), SpoonTable::seating, 2);
        Edge.answers("two at two seats, too long", twoAtTwo(2), SpoonTable::seating, 0);
        Edge.answers("five at five seats", noFreeSeat(), SpoonTable::seating, 4);
        Edge.answers("five at ten seats", wide(), SpoonTable::seating, 4);
        Edge.answers("an inch more than there are seats", Tables.of(TEN, "person a at 0", "person b at 1", "known a b years 10 plain"),
            SpoonTable::seating, 0);
        Edge.promise(23, "NONE: 1 (no TABLE).");
        Edge.noTable("seating()", SpoonTable::seating, -1);
    }

    private static void seatsAre(String what, Supplier<SpoonTable> made, int... row) {
        for (int p = 0; p < row.length; p++) {
            int one = p;
            Edge.answers(what + ", seatAt(" + p + ")", made, x -> x.seatAt(one), row[p]);
        }
    }

    private static void seatAt() {
        Edge.promise(24, "Where one sits by it.");
        seatsAre("one alone, at 1 now", Tables::alone, 0);
        seatsAre("two at two seats", twoAtTwo(1), 0, 1);
        seatsAre("nobody is fed", twoAtTwo(2), 0, 1);
        seatsAre("five at five seats", noFreeSeat(), 0, 4, 1, 3, 2);
        seatsAre("five at ten seats", wide(), 0, 9, 1, 8, 2);
    }

    private static void noSeatAt() {
        Edge.promise(24, "NONE: 1.");
        Edge.noTable("seatAt(0)", x -> x.seatAt(0), -1);
        Edge.outside("seatAt()", Tables::alone, 0, 0, SpoonTable::seatAt, -1, 1);
        Edge.outside("seatAt()", Tables::busy, 0, 2, SpoonTable::seatAt, -1, 1);
        Edge.outside("seatAt()", Tables::full, 0, 4, SpoonTable::seatAt, -1, 1);
    }

    private static void seatSlops() {
        Edge.promise(25, "SLOPS by it.");
        Edge.answers("one alone", Tables::alone, SpoonTable::seatSlops, 0);
        Edge.answers("nobody is fed", twoAtTwo(2), SpoonTable::seatSlops, 0);
        Edge.answers("two at two seats", twoAtTwo(1), SpoonTable::seatSlops, 1);
        Edge.answers("five at five seats", noFreeSeat(), SpoonTable::seatSlops, 6);
        Edge.answers("the most", wide(), SpoonTable::seatSlops, 16);
        Edge.promise(25, "NONE: 1 (no TABLE).");
        Edge.noTable("seatSlops()", SpoonTable::seatSlops, -1);
    }

    /** a and d would feed 3 apart; only if d and e changed they were. */
    private static Supplier<SpoonTable> lastSwap() {
        return Tables.of(TEN, "person a at 0", "person b at 5", "person c at 7", "person d at 9", "person e at 3", "known a d years 3 plain");
    }

    private static void swapped() {
        Edge.promise(26, "How many were FED if two changed SEATS.");
        Edge.answers("the last two", lastSwap(), x -> x.swapped(3, 4), 2);
        Edge.answers("the last two, turned", lastSwap(), x -> x.swapped(4, 3), 2);
        Edge.answers("the first two", lastSwap(), x -> x.swapped(0, 1), 0);
        Edge.answers("those of a pair stay as far", twoAtTwo(1), x -> x.swapped(0, 1), 2);
        Edge.answers("four of five", Tables::allFeed, x -> x.swapped(0, 4), 4);
        Edge.answers("strangers", Tables::busy, x -> x.swapped(2, 0), 2);
    }

    private static void notSwapped() {
        Edge.promise(26, "NONE: 1 (unlike).");
        Edge.noTable("swapped(0, 1)", x -> x.swapped(0, 1), -1);
        Edge.refused("swapped(0, 0) of one", Tables::alone, x -> x.swapped(0, 0), -1, 1);
        Edge.refused("swapped(2, 2)", Tables::busy, x -> x.swapped(2, 2), -1, 1);
        Edge.outside("swapped(.., 1)", Tables::busy, 0, 2, (x, p) -> x.swapped(p, 1), -1, 1);
        Edge.outside("swapped(1, ..)", Tables::busy, 0, 2, (x, p) -> x.swapped(1, p), -1, 1);
        Edge.outside("swapped(.., 4)", Tables::full, 0, 4, (x, p) -> x.swapped(p, 4), -1, 1);
    }

    private static void bestSwap() {
        Edge.promise(27, "The two by whose change of SEATS most would be FED, more than NOW, "
            + "10 times the lesser and the other one, the first such; -2.");
        Edge.answers("one alone", Tables::alone, SpoonTable::bestSwap, -2);
        Edge.answers("not more than now", twoAtTwo(1), SpoonTable::bestSwap, -2);
        Edge.answers("none ever", twoAtTwo(2), SpoonTable::bestSwap, -2);
        Edge.answers("the last two", lastSwap(), SpoonTable::bestSwap, 34);
        // a c change, or b c, or a b: the first.
        Edge.answers("the first two", Tables.of(TEN, "person a at 0", "person b at 1", "person c at 2", "known a c years 1 plain"),
            SpoonTable::bestSwap, 1);
        // By 0 and 2 two would be fed, by 0 and 3 four, by 1 and 2 four.
        Edge.answers("most, not more alone", Tables.of(TEN, "person a at 0", "person b at 2", "person c at 1", "person d at 3",
            "known a b years 1 plain", "known c d years 1 plain"), SpoonTable::bestSwap, 3);
        Edge.promise(27, "NONE: 1 (no TABLE).");
        Edge.noTable("bestSwap()", SpoonTable::bestSwap, -1);
    }

    private static void better() {
        Edge.promise(28, "The free SEAT at which one should sit, all others staying, that most are FED, more than NOW, the first such; -2.");
        Supplier<SpoonTable> near = Tables.of(TEN, "person a at 9", "person b at 1", "known a b years 1 plain");
        Edge.answers("the first seat, not the third", near, x -> x.better(0), 0);
        Edge.answers("for the other one", near, x -> x.better(1), 8);
        Supplier<SpoonTable> far = Tables.of(TEN, "person a at 1", "person b at 0", "known a b years 9 plain");
        Edge.answers("the last seat", far, x -> x.better(0), 9);
        Edge.answers("none so far away", far, x -> x.better(1), -2);
        Edge.answers("one alone", Tables::alone, x -> x.better(0), -2);
        Edge.answers("no free seat", noFreeSeat(), x -> x.better(0), -2);
        Edge.answers("not more than now", Tables.of(TEN, "person a at 2", "person b at 1", "known a b years 1 plain"),
            x -> x.better(0), -2);
        Edge.answers("somebody sits there", Tables.of(TEN, "person a at 1", "person b at 0", "known a b years 9 plain", "person c at 9"),
            x -> x.better(0), -2);
        Edge.answers("there is no seat ahead of the first", Tables.of(TEN, "person a at 9", "person b at 0", "person c at 1",
            "known a b years 1 plain"), x -> x.better(0), -2);
        Edge.answers("nor behind the last", Tables.of(TEN, "person a at 0", "person b at 9", "person c at 8",
            "known a b years 1 plain"), x -> x.better(0), -2);
        Edge.answers("one whom nobody knows", Tables.of(TEN, "person a at 0", "person b at 2", "person c at 5",
            "known a b years 1 plain"), x -> x.better(2), -2);
    }

    private static void notBetter() {
        Edge.promise(28, "NONE: 1.");
        Edge.noTable("better(0)", x -> x.better(0), -1);
        Edge.outside("better()", Tables::alone, 0, 0, SpoonTable::better, -1, 1);
        Edge.outside("better()", Tables::busy, 0, 2, SpoonTable::better, -1, 1);
        Edge.outside("better()", Tables::full, 0, 4, SpoonTable::better, -1, 1);
    }

    private static void forkAt() {
        Edge.promise(29, "The SEAT without a fork at which one more would leave least SLOPPED by the BEST MATCH then "
            + "(nothing, too, if nobody is FED), the first such (a fifth fork is thought of, too); -2 there is none.");
        Edge.answers("nobody is fed: the first seat", Tables::alone, SpoonTable::forkAt, 0);
        Edge.answers("nobody is fed: the first without", Tables.of(TEN, "person a at 0", "fork 0", "fork 1", "fork 3"),
            SpoonTable::forkAt, 2);
        String ends = TEN + ";person a at 0;person b at 9;known a b years 9 plain";
        Edge.answers("not at theirs", Tables.of(ends), SpoonTable::forkAt, 1);
        Edge.answers("a fifth", Tables.of(ends, "fork 0", "fork 9", "fork 1", "fork 2"), SpoonTable::forkAt, 3);
        Edge.answers("a fifth, nothing left to slop", Tables.of(ends, "fork 1", "fork 2", "fork 3", "fork 4"), SpoonTable::forkAt, 0);
        Edge.answers("the last seat between", Tables.of(TEN, "person a at 7", "person b at 9", "known a b years 2 plain"),
            SpoonTable::forkAt, 8);
        Edge.answers("none without, of two", Tables.of("seats 2 slack 0 saw 1 quarrel 0", "person a at 0", "fork 1", "fork 0"),
            SpoonTable::forkAt, -2);
        String four = "seats 4 slack 0 saw 1 quarrel 0;person a at 0;fork 0;fork 1;fork 2";
        Edge.answers("one left of four", Tables.of(four), SpoonTable::forkAt, 3);
        Edge.answers("none without, of four", Tables.of(four, "fork 3"), SpoonTable::forkAt, -2);
        Edge.answers("one left of five, a fifth", Tables.of("seats 5 slack 0 saw 1 quarrel 0", "person a at 0", "fork 0", "fork 1",
            "fork 2", "fork 3"), SpoonTable::forkAt, 4);
        Edge.promise(29, "NONE: 1 (no TABLE).");
        Edge.noTable("forkAt()", SpoonTable::forkAt, -1);
    }
}
