/** Promises 30 to 36: fewest inches to saw, fewest to make known, matches that none leaves. */
public final class SawsTest {
    public static void main(String[] args) {
        noTable();
        saws();
        setsOfSaws();
        meet();
        meetNumbers();
        stable();
        leaves();
        Check.end();
    }

    private static void noTable() {
        SpoonTable x = new SpoonTable();
        Check.refused(x, "saws", x.saws(), 1);
        Check.refused(x, "sawsOf", x.sawsOf(0), 1);
        Check.refused(x, "meet", x.meet(61), 1);
        Check.refused(x, "meetAt", x.meetAt(-1), 1);
        Check.refused(x, "stable", x.stable(), 1);
        Check.refused(x, "stableAt", x.stableAt(0), 1);
        Check.refused(x, "leaves", x.leaves(), 1);
    }

    private static void cut(int slack, int far, int years, String kind, int inches) {
        SpoonTable x = Check.laid("table seats 10 slack " + slack + " saw 3 quarrel 0;person a at 0;person b at " + far
            + ";known a b years " + years + " " + kind);
        String what = kind + " of " + years + ", far " + far + ", slack " + slack;
        Check.due("saws " + what, x.saws(), inches);
        Check.due("sawsOf " + what, x.sawsOf(0), inches);
        Check.due("trouble", x.trouble(), 0);
        Check.refused(x, "sawsOf(1)", x.sawsOf(1), 1);
        Check.refused(x, "sawsOf(-1)", x.sawsOf(-1), 1);
    }

    private static void saws() {
        cut(0, 2, 9, "plain", 7);
        cut(1, 2, 9, "plain", 6);
        cut(0, 2, 2, "plain", 0);
        cut(0, 2, 1, "plain", -2);
        cut(1, 2, 1, "plain", 0);
        cut(2, 1, 99, "plain", 96);
        cut(0, 2, 9, "hinged", 4);
        cut(0, 2, 99, "hinged", 94);
        cut(1, 2, 9, "hinged", 2);
        cut(0, 3, 5, "hinged", 2);
        cut(0, 2, 3, "hinged", 1);
        cut(0, 2, 1, "hinged", -2);
        cut(0, 1, 99, "ringed", 0);
        cut(0, 2, 99, "ringed", -2);
        cut(3, 1, 0, "plain", 0);
    }

    private static void setsOfSaws() {
        SpoonTable x = Check.laid("table seats 2 slack 0 saw 1 quarrel 0;person a at 0");
        Check.due("saws of one", x.saws(), 0);
        x = Check.laid("table seats 2 slack 0 saw 1 quarrel 0;person a at 0;person b at 1");
        Check.due("saws of strangers", x.saws(), -2);
        x = Check.laid("table seats 5 slack 0 saw 1 quarrel 0;person a at 0;person b at 1;person c at 2;person d at 4;"
            + "known a b years 1 plain;known c d years 5 plain;known a c years 3 plain;known b d years 4 plain;known a d years 9 plain");
        // a b and c d: 0 and 3; a c and b d: 1 and 1.
        Check.due("saws", x.saws(), 2);
        int[] of = {0, 0, 1, 1, 0};
        for (int k = 0; k < of.length; k++) {
            Check.due("sawsOf(" + k + ")", x.sawsOf(k), of[k]);
        }
        x.quarrel(1);
        Check.due("of like ones the least bits", x.saws(), 2);
        Check.due("sawsOf(1)", x.sawsOf(1), 2);
        Check.due("sawsOf(2)", x.sawsOf(2), 0);
        x = Check.laid("table seats 5 slack 0 saw 1 quarrel 0;person a at 0;person b at 1;person c at 3;"
            + "known a b years 7 plain;known a c years 5 plain;known b c years 1 plain");
        Check.due("one pair of three", x.saws(), 2);
        Check.due("sawsOf(1)", x.sawsOf(1), 2);
        Check.due("sawsOf(0)", x.sawsOf(0), 0);
        Check.due("sawsOf(2): too short", x.sawsOf(2), 0);
    }

    private static void met(SpoonTable x, int n, int count, int bits) {
        Check.due("meet(" + n + ")", x.meet(n), count);
        Check.due("trouble", x.trouble(), 0);
        Check.due("meetAt(" + n + ")", x.meetAt(n), bits);
        Check.due("trouble", x.trouble(), 0);
    }

    private static void meet() {
        SpoonTable x = Check.laid("table seats 4 slack 0 saw 1 quarrel 0;person a at 0;person b at 2;person c at 3");
        met(x, 0, -2, -2);
        met(x, 1, 1, 4);
        met(x, 2, 1, 1);
        met(x, 3, 1, 2);
        met(x, 4, -2, -2);
        x = Check.laid("table seats 4 slack 0 saw 1 quarrel 0;person a at 0;person b at 1;person c at 2;person d at 3");
        met(x, 1, 2, 33);
        met(x, 2, 2, 18);
        met(x, 3, -2, -2);
        x.know(1, 0);
        met(x, 1, 1, 32);
        met(x, 2, 2, 18);
        x.know(2, 3);
        met(x, 1, 0, 0);
        Check.due("nobody was made known", x.size(6), 2);
        x = Check.laid("table seats 4 slack 0 saw 1 quarrel 0;person a at 0");
        met(x, 60, 0, 0);
        // Fewest first, then the least bits: of c d known (1 year, far 1) only a b are left.
        x = Check.laid("table seats 4 slack 0 saw 1 quarrel 0;person d at 0;person c at 1;person b at 2;person a at 3;known d c years 0 hinged");
        met(x, 1, 1, 32);
        x = Check.laid("table seats 10 slack 0 saw 1 quarrel 0;person a at 0;person b at 1;person c at 2;person d at 3;person e at 5");
        // Twos of five: ab ac ad ae bc bd be cd ce de. One apart: ab, bc, cd.
        met(x, 1, 2, 1 | 128);
        // Two apart: ac, bd, de.
        met(x, 2, 2, 2 | 32);
        // Three apart: ad, ce.
        met(x, 3, 2, 4 | 256);
        met(x, 4, -2, -2);
    }

    private static void meetNumbers() {
        SpoonTable x = Check.laid("table seats 4 slack 0 saw 1 quarrel 0;person a at 0;person b at 2;person c at 3");
        Check.refused(x, "meet(61)", x.meet(61), 2);
        Check.refused(x, "meet(-1)", x.meet(-1), 2);
        Check.refused(x, "meetAt(61)", x.meetAt(61), 2);
        Check.refused(x, "meetAt(-1)", x.meetAt(-1), 2);
    }

    private static void stable() {
        // All can feed; the longest handle is of b c.
        SpoonTable x = Check.laid("table seats 4 slack 3 saw 1 quarrel 0;person a at 0;person b at 1;person c at 2;person d at 3;"
            + "known a b years 2 plain;known b c years 4 plain;known c d years 3 plain;known a d years 1 plain");
        Check.due("stable", x.stable(), 1);
        Check.due("stableAt(0)", x.stableAt(0), 2 | 8);
        Check.refused(x, "stableAt(1)", x.stableAt(1), 1);
        Check.refused(x, "stableAt(-1)", x.stableAt(-1), 1);
        // Of like handles the lesser number: b rather has a than c.
        x = Check.laid("table seats 3 slack 3 saw 1 quarrel 0;person a at 0;person b at 1;person c at 2;"
            + "known b c years 2 plain;known b a years 2 plain");
        Check.due("stable", x.stable(), 1);
        Check.due("stableAt(0)", x.stableAt(0), 2);
        // The half of a hinged handle does not count, nor the years of a ringed one.
        x = Check.laid("table seats 6 slack 1 saw 1 quarrel 0;person a at 0;person b at 1;person c at 2;"
            + "known a b years 90 ringed;known a c years 4 hinged");
        Check.due("stableAt(0)", x.stableAt(0), 2);
        x = Check.laid("table seats 4 slack 0 saw 1 quarrel 0;person a at 0;person b at 1;known a b years 3 plain");
        Check.due("none can feed", x.stable(), 1);
        Check.due("stableAt(0)", x.stableAt(0), 0);
    }

    private static void leaves() {
        SpoonTable x = Check.laid("table seats 4 slack 3 saw 1 quarrel 0;person a at 0;person b at 1;person c at 2;person d at 3;"
            + "known a b years 2 plain;known b c years 4 plain;known c d years 3 plain");
        Check.due("match", x.match(), 5);
        Check.due("b and c would leave", x.leaves(), 1);
        x.quarrel(1);
        Check.due("c would not: d has the lesser number? no, b has", x.leaves(), 1);
        x.quarrel(1);
        Check.due("c rather has d", x.leaves(), -2);
        x = Check.laid("table seats 6 slack 0 saw 1 quarrel 0;person a at 0;person b at 1;person c at 2;known a b years 1 plain;known a c years 9 plain");
        Check.due("who can't feed don't leave", x.leaves(), -2);
    }
}
