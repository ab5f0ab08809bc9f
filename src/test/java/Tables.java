import java.util.function.Supplier;

/** Objects on which the tests of edges make their calls; each time a new one, made alike. */
final class Tables {
    private static final String HEAD = "table seats 6 slack 1 saw 2 quarrel 30";
    private static final String BUSY = HEAD + ";person a at 0;person b at 3;person c at 5;fork 1;fork 4;"
        + "known a b years 4 hinged;known b c years 9 ringed;unsure a b 8;tried a b fed;tried c b starved";
    static final String SMALL = "table seats 2 slack 0 saw 1 quarrel 0;person a at 1";
    static final String FULL = "table seats 10 slack 3 saw 9 quarrel 100;"
        + "person a at 0;person b at 2;person c at 4;person d at 6;person e at 9;fork 1;fork 3;fork 5;fork 7;"
        + "known a b years 2 plain;known a c years 99 hinged;known a d years 0 ringed;known a e years 9 plain;"
        + "known b c years 2 hinged;known b d years 4 plain;known b e years 99 ringed;known c d years 0 plain;"
        + "known c e years 10 hinged;known d e years 3 plain;"
        + "unsure a b 99;unsure c a 0;unsure d e 50;unsure b c 1;"
        + "tried a b fed;tried c a starved;tried b c fed;tried d b fed;tried c d starved;tried d e fed";

    private Tables() {
    }

    /** A table by its lines, the first of which lacks its first word. */
    static Supplier<SpoonTable> of(String... lines) {
        return () -> Check.laid("table " + String.join(";", lines));
    }

    /** No TABLE: a FAULT was told, and bytes have come since. */
    static SpoonTable onlyTape() {
        SpoonTable x = new SpoonTable();
        Check.lay(x, HEAD);
        Check.feed(x, "table seats 2 slack ");
        return x;
    }

    /** One person, two seats, nobody known. */
    static SpoonTable alone() {
        return Check.laid(SMALL);
    }

    /** One person at the first of ten seats. */
    static SpoonTable alone10() {
        return Check.laid("table seats 10 slack 0 saw 1 quarrel 0;person a at 0");
    }

    /**
     * Three acts, two images, a tape, and a FAULT as the latest of TROUBLE. a is at 0, b at 3, c at 4; the
     * pair a b is hinged, known for 5 years, sawn by 2; b c are ringed, known for 10; a and c are strangers.
     */
    static SpoonTable busy() {
        SpoonTable x = Check.laid(BUSY);
        x.year();
        x.quarrel(0);
        x.image();
        x.sit(2, 4);
        x.image();
        Check.lay(x, HEAD);
        Check.feed(x, "table seats 2 slack ");
        return x;
    }

    /** As many of all as there can be: people, forks, pairs, unsure and tried ones, acts, images, bytes. */
    static SpoonTable full() {
        SpoonTable x = Check.laid(FULL);
        years(x, 3);
        x.quarrel(0);
        x.sit(4, 8);
        years(x, 2);
        x.image();
        x.quarrel(3);
        x.sit(1, 3);
        years(x, 4);
        x.image();
        x.sit(0, 2);
        x.quarrel(5);
        years(x, 2);
        x.image();
        Check.feed(x, SMALL + " ".repeat(800 - SMALL.length()));
        return x;
    }

    /** Five side by side, all known for 2 years, slack 3: all can feed all. */
    static SpoonTable allFeed() {
        return five("seats 5 slack 3 saw 1 quarrel 0", 2, 2, 2, 2, 2, 2, 2, 2, 2, 2).get();
    }

    /** a to e at 0 to 4, all known, plain, for so many years: ab ac ad ae bc bd be cd ce de. */
    static Supplier<SpoonTable> five(String head, int... years) {
        StringBuilder text = new StringBuilder("table ").append(head);
        for (int p = 0; p < 5; p++) {
            text.append(";person ").append((char) ('a' + p)).append(" at ").append(p);
        }
        int k = 0;
        for (char p = 'a'; p <= 'e'; p++) {
            for (char q = (char) (p + 1); q <= 'e'; q++) {
                text.append(";known ").append(p).append(' ').append(q).append(" years ").append(years[k++]).append(" plain");
            }
        }
        return () -> Check.laid(text.toString());
    }

    static void years(SpoonTable x, int n) {
        for (int i = 0; i < n; i++) {
            x.year();
        }
    }
}
