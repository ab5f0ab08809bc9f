/** Promises 23 to 29: seats for all, swaps, a better seat, one fork more. */
public final class SeatsTest {
    public static void main(String[] args) {
        noTable();
        two();
        more();
        keepsUp();
        swaps();
        better();
        forks();
        Check.end();
    }

    private static void noTable() {
        SpoonTable x = new SpoonTable();
        Check.refused(x, "seating", x.seating(), 1);
        Check.refused(x, "seatAt", x.seatAt(0), 1);
        Check.refused(x, "seatSlops", x.seatSlops(), 1);
        Check.refused(x, "swapped", x.swapped(0, 1), 1);
        Check.refused(x, "bestSwap", x.bestSwap(), 1);
        Check.refused(x, "better", x.better(0), 1);
        Check.refused(x, "forkAt", x.forkAt(), 1);
    }

    private static void seated(SpoonTable x, int fed, int slops, int... row) {
        Check.due("seating", x.seating(), fed);
        Check.due("seatSlops", x.seatSlops(), slops);
        for (int p = 0; p < row.length; p++) {
            Check.due("seatAt(" + p + ")", x.seatAt(p), row[p]);
            Check.due("trouble", x.trouble(), 0);
        }
        Check.refused(x, "seatAt behind the last", x.seatAt(row.length), 1);
        Check.refused(x, "seatAt(-1)", x.seatAt(-1), 1);
    }

    private static void two() {
        String head = "table seats 6 slack 0 saw 2 quarrel 0;person a at 5;person b at 4;known a b years 3 plain";
        seated(Check.laid(head), 2, 3, 0, 3);
        seated(Check.laid(head + ";fork 1"), 2, 0, 0, 3);
        seated(Check.laid(head + ";fork 4"), 2, 0, 2, 5);
        seated(Check.laid(head + ";fork 0;fork 5"), 2, 3, 0, 3);
        seated(Check.laid("table seats 3 slack 0 saw 1 quarrel 0;person a at 2;person b at 1;known a b years 3 plain"), 0, 0, 0, 1);
        seated(Check.laid("table seats 2 slack 0 saw 1 quarrel 0;person a at 1"), 0, 0, 0);
    }

    private static void more() {
        // a b want 1 apart, c d 5: only the ends are, so a b come between; e anywhere left.
        SpoonTable x = Check.laid("table seats 6 slack 0 saw 1 quarrel 0;person a at 0;person b at 5;person c at 2;person d at 3;person e at 4;"
            + "known a b years 1 plain;known c d years 5 plain");
        seated(x, 4, 6, 1, 2, 0, 5, 3);
        // A fork takes 3 of the 5.
        x = Check.laid("table seats 6 slack 0 saw 1 quarrel 0;person a at 0;person b at 5;person c at 2;person d at 3;person e at 4;fork 1;"
            + "known a b years 1 plain;known c d years 5 plain");
        seated(x, 4, 3, 1, 2, 0, 5, 3);
    }

    /** What was found for a table must not be told of another. */
    private static void keepsUp() {
        SpoonTable x = Check.laid("table seats 6 slack 0 saw 2 quarrel 0;person a at 5;person b at 4;person c at 0;known a b years 3 plain");
        seated(x, 2, 3, 0, 3, 1);
        x.year();
        seated(x, 2, 4, 0, 4, 1);
        x.image();
        x.quarrel(0);
        seated(x, 2, 2, 0, 2, 1);
        x.sit(0, 1);
        seated(x, 2, 2, 0, 2, 1);
        x.undo();
        x.undo();
        seated(x, 2, 4, 0, 4, 1);
        x.know(0, 2);
        x.year();
        seated(x, 2, 1, 0, 2, 1);
        x.back(0);
        seated(x, 2, 4, 0, 4, 1);
        Check.lay(x, "table seats 2 slack 0 saw 1 quarrel 0;person a at 1;person b at 0");
        seated(x, 0, 0, 0, 1);
    }

    private static void swaps() {
        SpoonTable x = Check.laid("table seats 6 slack 0 saw 1 quarrel 0;person a at 0;person b at 1;person c at 3;known a c years 1 plain");
        Check.due("swapped(0, 1)", x.swapped(0, 1), 0);
        Check.due("swapped(0, 2)", x.swapped(0, 2), 0);
        Check.due("swapped(1, 2)", x.swapped(1, 2), 2);
        Check.due("swapped(2, 1)", x.swapped(2, 1), 2);
        Check.refused(x, "swapped(1, 1)", x.swapped(1, 1), 1);
        Check.refused(x, "swapped(1, 3)", x.swapped(1, 3), 1);
        Check.refused(x, "swapped(-1, 1)", x.swapped(-1, 1), 1);
        Check.due("bestSwap", x.bestSwap(), 12);
        Check.due("seats stay", x.seat(1), 1);
        x.sit(2, 2);
        // Now a and b change as well as b and c: the first two are told.
        Check.due("bestSwap", x.bestSwap(), 1);
        x.sit(1, 5);
        x.sit(0, 1);
        Check.due("fed", x.fed(), 2);
        Check.due("none feeds more", x.bestSwap(), -2);
        Check.due("bestSwap of one", Check.laid("table seats 2 slack 0 saw 1 quarrel 0;person a at 1").bestSwap(), -2);
    }

    private static void better() {
        SpoonTable x = Check.laid("table seats 6 slack 0 saw 1 quarrel 0;person a at 0;person b at 1;person c at 3;known a c years 1 plain");
        Check.due("better(0)", x.better(0), 2);
        Check.due("better(1)", x.better(1), -2);
        Check.due("better(2): b sits there", x.better(2), -2);
        Check.refused(x, "better(3)", x.better(3), 1);
        Check.refused(x, "better(-1)", x.better(-1), 1);
        x.sit(0, 2);
        Check.due("no better than now", x.better(0), -2);
        x = Check.laid("table seats 2 slack 0 saw 1 quarrel 0;person a at 0;person b at 1;known a b years 0 plain");
        Check.due("no free seat", x.better(0), -2);
    }

    private static void forks() {
        String ends = "table seats 10 slack 0 saw 1 quarrel 0;person a at 0;person b at 9;known a b years 9 plain";
        Check.due("the first between", Check.laid(ends).forkAt(), 1);
        Check.due("the next", Check.laid(ends + ";fork 1").forkAt(), 2);
        Check.due("a fifth", Check.laid(ends + ";fork 0;fork 9;fork 1;fork 2").forkAt(), 3);
        Check.due("nothing is slopped", Check.laid(ends + ";fork 3;fork 4;fork 5").forkAt(), 0);
        SpoonTable x = Check.laid(ends + ";fork 0");
        x.year();
        Check.due("nobody is fed", x.forkAt(), 1);
        Check.due("no seat", Check.laid("table seats 2 slack 0 saw 1 quarrel 0;person a at 0;fork 0;fork 1").forkAt(), -2);
        Check.due("four of four", Check.laid("table seats 4 slack 0 saw 1 quarrel 0;person a at 0;fork 0;fork 1;fork 3;fork 2").forkAt(), -2);
        // By a fork at 3 the pair a c is the best match: 4 less 3; by one at 1 a b, 2 less 3.
        x = Check.laid("table seats 5 slack 0 saw 1 quarrel 0;person a at 0;person b at 2;person c at 4;known a b years 2 plain;known a c years 4 plain");
        Check.due("another match", x.forkAt(), 1);
    }
}
