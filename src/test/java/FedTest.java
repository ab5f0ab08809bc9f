/** Promises 11 to 16: the best match and what is told of it. */
public final class FedTest {
    public static void main(String[] args) {
        noTable();
        row();
        leastSlopped();
        leastBits();
        one();
        five();
        Check.end();
    }

    private static void noTable() {
        SpoonTable x = new SpoonTable();
        Check.refused(x, "fed", x.fed(), 1);
        Check.refused(x, "match", x.match(), 1);
        Check.refused(x, "slops", x.slops(), 1);
        Check.refused(x, "mate", x.mate(0), 1);
        Check.refused(x, "starving", x.starving(), 1);
        Check.refused(x, "matches", x.matches(), 1);
    }

    private static void best(SpoonTable x, int fed, int match, int slops, int starving, int matches) {
        Check.due("fed", x.fed(), fed);
        Check.due("match", x.match(), match);
        Check.due("slops", x.slops(), slops);
        Check.due("starving", x.starving(), starving);
        Check.due("matches", x.matches(), matches);
        Check.due("trouble", x.trouble(), 0);
    }

    private static void mates(SpoonTable x, int... due) {
        for (int p = 0; p < due.length; p++) {
            Check.due("mate(" + p + ")", x.mate(p), due[p]);
            Check.due("trouble", x.trouble(), 0);
        }
        Check.refused(x, "mate behind the last", x.mate(due.length), 1);
        Check.refused(x, "mate(-1)", x.mate(-1), 1);
    }

    private static void row() {
        SpoonTable x = Check.laid("table seats 4 slack 0 saw 1 quarrel 0;person a at 0;person b at 1;person c at 2;person d at 3;"
            + "known b c years 1 plain;known a b years 1 plain;known d c years 1 plain;known a d years 2 plain");
        best(x, 4, 6, 2, 0, 5);
        mates(x, 1, 0, 3, 2);
    }

    private static void leastSlopped() {
        String head = "table seats 8 slack 0 saw 1 quarrel 0;person a at 0;person b at 2;person c at 5;";
        String known = "known a b years 2 plain;known a c years 5 plain";
        SpoonTable x = Check.laid(head + known);
        best(x, 2, 1, 2, 4, 3);
        mates(x, 1, 0, -2);
        x = Check.laid(head + "fork 4;" + known);
        best(x, 2, 1, 2, 4, 3);
        x = Check.laid(head + "fork 4;fork 3;" + known);
        best(x, 2, 2, 0, 2, 3);
        mates(x, 2, -2, 0);
    }

    private static void leastBits() {
        String head = "table seats 3 slack 0 saw 1 quarrel 0;person a at 1;person b at 0;person c at 2;";
        best(Check.laid(head + "known a b years 1 plain;known a c years 1 plain"), 2, 1, 1, 4, 3);
        best(Check.laid(head + "known a c years 1 plain;known a b years 1 plain"), 2, 1, 1, 2, 3);
    }

    private static void one() {
        SpoonTable x = Check.laid("table seats 2 slack 3 saw 1 quarrel 0;person a at 1");
        best(x, 0, 0, 0, 1, 1);
        mates(x, -2);
    }

    /** All know all, and slack lets all feed: 1 empty match, 10 of one pair, 15 of two. */
    private static void five() {
        StringBuilder text = new StringBuilder("table seats 5 slack 3 saw 1 quarrel 0");
        for (int p = 0; p < 5; p++) {
            text.append(";person ").append((char) ('a' + p)).append(" at ").append(p);
        }
        for (int p = 0; p < 5; p++) {
            for (int q = p + 1; q < 5; q++) {
                text.append(";known ").append((char) ('a' + p)).append(' ').append((char) ('a' + q)).append(" years 2 plain");
            }
        }
        SpoonTable x = Check.laid(text.toString());
        // By pairs 0 (a b) and 7 (c d) two are slopped, as by others, whose bits are higher.
        best(x, 4, 1 << 0 | 1 << 7, 2, 16, 26);
        mates(x, 1, 0, 3, 2, -2);
    }
}
