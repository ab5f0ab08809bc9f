import java.util.Arrays;
import java.util.LinkedHashMap;
import java.util.Map;
import java.util.function.Supplier;
import java.util.function.ToLongFunction;

/** Terms II to IV at their edges: pairs and matches, years and seats, quarrels, acts, trouble. */
public final class EdgeTermsTest {
    private static final String TEN = "seats 10 slack 0 saw 1 quarrel 0";

    public static void main(String[] args) {
        pairs();
        matches();
        bestMatch();
        years();
        seating();
        saws();
        meet();
        noneLeaves();
        fits();
        sawOrSit();
        quarrels();
        draws();
        acts();
        images();
        trouble();
        constants();
        Edge.whole("terms II");
        Edge.whole("terms III");
        Edge.whole("terms IV");
        Edge.end(1, 0);
    }

    private static SpoonTable two(int slack, int at, int other, int years, String kind) {
        return Tables.of("seats 10 slack " + slack + " saw 9 quarrel 50", "person a at " + at, "person b at " + other,
            "known a b years " + years + " " + kind).get();
    }

    // ---- terms II

    private static void pairs() {
        Edge.terms("II", "II. PAIRS are who know each other, numbered as told, then as made KNOWN.");
        SpoonTable x = Tables.of(TEN, "person a at 0", "person b at 1", "person c at 2", "known c a years 1 plain").get();
        Edge.due("as told", x.pairOf(0, 2), 0);
        Edge.due("then as made known", x.know(1, 2), 1);
        Edge.due("and the last", x.know(1, 0), 2);
        Edge.due("strangers are none", Tables.alone().size(6), 0);

        Edge.terms("II", "A HANDLE: of a plain or hinged one as many inches as YEARS it was known, less what was SAWN, 0 at least;");
        for (String kind : new String[] {"plain", "hinged"}) {
            for (int inches : new int[] {0, 1, 8, 9, 10, 99}) {
                x = two(0, 0, 9, inches, kind);
                Edge.due(kind + " of " + inches, x.pair(0, 3), inches);
                x.quarrel(0);
                Edge.due(kind + " of " + inches + ", sawn", x.pair(0, 3), Math.max(0, inches - 9));
                x.year();
                Edge.due(kind + " of " + inches + ", a year on", x.pair(0, 3), Math.max(0, inches - 9) + 1);
            }
        }

        Edge.terms("II", "of a ringed one 1, ever.");
        for (int inches : new int[] {0, 1, 2, 99}) {
            x = two(0, 0, 9, inches, "ringed");
            Edge.due("ringed of " + inches, x.pair(0, 3), 1);
            x.quarrel(0);
            x.year();
            Edge.due("ringed of " + inches + ", a year on", x.pair(0, 3), 1);
        }

        Edge.terms("II", "How FAR two are: the difference of their SEATS.");
        for (int other = 1; other <= 9; other++) {
            // Without forks that is what is slopped.
            Edge.due("0 and " + other, two(0, 0, other, 0, "plain").pair(0, 7), other);
            Edge.due(other + " and 0", two(0, other, 0, 0, "plain").pair(0, 7), other);
        }
        feed();
        slops();
    }

    private static void feed() {
        Edge.terms("II", "A PAIR can FEED if how FAR they are differs by no more than slack from the HANDLE,");
        for (int slack = 0; slack <= 3; slack++) {
            for (int far = 1; far <= 9; far++) {
                for (int handle = 0; handle <= 14; handle++) {
                    boolean can = handle >= far - slack && handle <= far + slack;
                    Edge.due("slack " + slack + ", far " + far + ", handle " + handle,
                        two(slack, 0, far, handle, "plain").pair(0, 6), can ? 1 : 0);
                }
                Edge.due("ringed, slack " + slack + ", far " + far, two(slack, 9, 9 - far, 99, "ringed").pair(0, 6),
                    far - 1 <= slack ? 1 : 0);
            }
        }

        Edge.terms("II", "or, hinged, from its half (the lower WHOLE).");
        for (int slack = 0; slack <= 3; slack++) {
            for (int far = 1; far <= 9; far++) {
                for (int handle = 0; handle <= 27; handle++) {
                    // The half's lower whole is no more than so much if the whole is below twice the next.
                    boolean whole = handle >= far - slack && handle <= far + slack;
                    boolean half = handle >= 2 * (far - slack) && handle < 2 * (far + slack + 1);
                    Edge.due("slack " + slack + ", far " + far + ", handle " + handle,
                        two(slack, 0, far, handle, "hinged").pair(0, 6), whole || half ? 1 : 0);
                }
            }
        }
    }

    private static void slops() {
        Edge.terms("II", "SLOPS of a PAIR: how FAR they are, less 3 for each fork at a SEAT between theirs (not at theirs), 0 at least.");
        for (int low = 0; low < 9; low++) {
            for (int high = low + 1; high <= 9; high++) {
                for (int fork = 0; fork <= 9; fork++) {
                    SpoonTable x = Tables.of(TEN, "person a at " + high, "person b at " + low, "known a b years 0 plain", "fork " + fork).get();
                    boolean between = fork > low && fork < high;
                    int due = between ? Math.max(0, high - low - 3) : high - low;
                    Edge.due(low + " and " + high + ", a fork at " + fork, x.pair(0, 7), due);
                }
            }
        }
        String ends = TEN + ";person a at 0;person b at 9;known a b years 0 plain";
        Edge.due("two forks", Tables.of(ends, "fork 1", "fork 8").get().pair(0, 7), 3);
        Edge.due("three forks", Tables.of(ends, "fork 1", "fork 8", "fork 5").get().pair(0, 7), 0);
        Edge.due("four forks", Tables.of(ends, "fork 1", "fork 8", "fork 5", "fork 2").get().pair(0, 7), 0);
    }

    private static void matches() {
        Edge.terms("II", "A MATCH: PAIRS that can FEED, no two of which share a person (none at all, too).");
        Edge.due("none at all", Tables.alone().matches(), 1);
        // All of a row: none, a b, b c, c d, and the first with the last.
        Edge.due("a row of four", Tables.of(TEN, "person a at 0", "person b at 1", "person c at 2", "person d at 3",
            "known a b years 1 plain", "known b c years 1 plain", "known c d years 1 plain").get().matches(), 5);
        Edge.due("two that share a person", Tables.of(TEN, "person a at 0", "person b at 1", "person c at 2",
            "known a b years 1 plain", "known b c years 1 plain").get().matches(), 3);
        Edge.due("one that can't", Tables.of(TEN, "person a at 0", "person b at 1", "person c at 2",
            "known a b years 1 plain", "known b c years 2 plain").get().matches(), 2);

        Edge.terms("II", "FED are who is in one of them.");
        SpoonTable x = Tables.of(TEN, "person a at 0", "person b at 1", "person c at 5", "known a b years 1 plain").get();
        Edge.due("fed()", x.fed(), 2);
        Edge.due("starving()", x.starving(), 4);
    }

    private static void bestMatch() {
        Edge.terms("II", "BEST MATCH: most are FED; of like ones least is SLOPPED together; of like ones the least bits (of PAIRS).");
        // Two pairs ahead of one of fewer bits and less slopped.
        SpoonTable x = Tables.of(TEN, "person a at 0", "person b at 4", "person c at 5", "person d at 9",
            "known b c years 1 plain", "known a b years 4 plain", "known c d years 4 plain").get();
        Edge.due("most are fed", x.match(), 6);
        Edge.due("slopped", x.slops(), 8);
        // One pair each: the second slops less by an inch.
        x = Tables.of(TEN, "person a at 3", "person b at 0", "person c at 5", "known a b years 3 plain", "known a c years 2 plain").get();
        Edge.due("least is slopped", x.match(), 2);
        x = Tables.of(TEN, "person a at 3", "person b at 0", "person c at 6", "known a b years 3 plain", "known a c years 3 plain").get();
        Edge.due("the least bits", x.match(), 1);
        // Two and two of three ways, each 4 slopped: ab cd (1 and 3), ac bd (2 and 2), ad bc (3 and 1).
        x = Tables.of("seats 10 slack 3 saw 1 quarrel 0", "person a at 0", "person b at 1", "person c at 2", "person d at 3",
            "known a d years 2 plain", "known a c years 2 plain", "known b c years 2 plain", "known b d years 2 plain").get();
        Edge.due("the least bits of two", x.match(), 5);
    }

    // ---- terms III

    private static void years() {
        Edge.terms("III", "III. Behind n years nothing else is done: each HANDLE that grows is n more.");
        SpoonTable x = Tables.of("seats 10 slack 0 saw 9 quarrel 100", "person a at 0", "person b at 9", "person c at 5",
            "known a b years 3 plain", "known a c years 3 hinged", "known b c years 3 ringed").get();
        x.quarrel(0);
        for (int n = 0; n <= 60; n++) {
            Edge.due("sawn to 0, behind " + n, x.handleIn(0, n), n);
            Edge.due("hinged, behind " + n, x.handleIn(1, n), 3 + n);
            Edge.due("ringed, behind " + n, x.handleIn(2, n), 1);
        }
    }

    private static void seatsAre(String what, SpoonTable x, int fed, int slops, int... row) {
        Edge.due(what + ": seating()", x.seating(), fed);
        Edge.due(what + ": seatSlops()", x.seatSlops(), slops);
        for (int p = 0; p < row.length; p++) {
            Edge.due(what + ": seatAt(" + p + ")", x.seatAt(p), row[p]);
        }
    }

    private static void seating() {
        Edge.terms("III", "SEATING: all to SEATS, unlike ones, by whose BEST MATCH most are FED, of like ones least is SLOPPED, "
            + "of like ones the first row, person by person, by numbers.");
        seatsAre("five strangers", Tables.of(TEN, "person a at 9", "person b at 8", "person c at 7", "person d at 6", "person e at 5").get(),
            0, 0, 0, 1, 2, 3, 4);
        seatsAre("the last two", Tables.of(TEN, "person a at 9", "person b at 8", "person c at 7", "known b c years 1 plain").get(),
            2, 1, 0, 1, 2);
        // A fork lies between 3 and 6, but not between 2 and 5.
        seatsAre("least is slopped", Tables.of(TEN, "person a at 9", "person b at 8", "known a b years 3 plain", "fork 5").get(),
            2, 0, 3, 6);
        seatsAre("least is slopped, by slack", Tables.of("seats 10 slack 2 saw 1 quarrel 0", "person a at 9", "person b at 8",
            "known a b years 4 plain").get(), 2, 2, 0, 2);
        seatsAre("least is slopped, hinged", Tables.of(TEN, "person a at 9", "person b at 8", "known a b years 6 hinged").get(), 2, 3, 0, 3);
        seatsAre("the ends, behind one who is alone", Tables.of(TEN, "person a at 0", "person b at 1", "person c at 2",
            "known b c years 9 plain").get(), 2, 9, 1, 0, 9);
        seatsAre("the ends, behind two", Tables.of(TEN, "person a at 0", "person b at 1", "person c at 2", "person d at 3", "person e at 4",
            "known d e years 9 plain", "known b c years 7 plain").get(), 4, 16, 2, 1, 8, 0, 9);
        // Most are fed, though the first pair alone would slop less.
        seatsAre("most are fed", Tables.of("seats 4 slack 0 saw 1 quarrel 0", "person a at 0", "person b at 1", "person c at 2", "person d at 3",
            "known a b years 3 plain", "known c d years 1 plain").get(), 4, 4, 0, 3, 1, 2);
        seatingOfAllRows();
    }

    /** Every row of seats is told as a table of its own; the best of them by fed() and slops() is due. */
    private static void seatingOfAllRows() {
        String[][] tables = {
            {"known a b years 4 plain", "known b c years 1 plain", "known c d years 2 plain", "known d e years 3 plain", "known a e years 5 hinged"},
            {"known e d years 5 plain", "known c b years 4 hinged", "known a d years 9 ringed", "fork 2", "fork 4"},
            {"known a c years 3 plain", "known a e years 3 plain", "known c e years 3 plain", "known b d years 2 hinged", "fork 1"},
            {"known b e years 5 plain", "known a e years 4 plain", "known a d years 4 plain", "known c d years 5 plain", "fork 3", "fork 0"},
            {"known d e years 9 plain", "known a b years 9 hinged", "known b c years 9 ringed", "known a c years 1 ringed"},
        };
        for (int slack = 0; slack <= 1; slack++) {
            for (String[] known : tables) {
                allRows("seats 6 slack " + slack + " saw 1 quarrel 0", String.join(";", known));
            }
        }
    }

    private static SpoonTable rowOf(String head, int[] row, String known) {
        StringBuilder text = new StringBuilder(head);
        for (int p = 0; p < row.length; p++) {
            text.append(";person ").append((char) ('a' + p)).append(" at ").append(row[p]);
        }
        return Tables.of(text.toString(), known).get();
    }

    private static void allRows(String head, String known) {
        int[] best = null;
        int fed = -1;
        int slops = 0;
        for (int rows = 0; rows < 6 * 6 * 6 * 6 * 6; rows++) {
            int[] row = {rows / 1296, rows / 216 % 6, rows / 36 % 6, rows / 6 % 6, rows % 6};
            if (Arrays.stream(row).distinct().count() == 5) {
                SpoonTable x = rowOf(head, row, known);
                int count = x.fed();
                if (count > fed || count == fed && x.slops() < slops) {
                    best = row;
                    fed = count;
                    slops = x.slops();
                }
            }
        }
        seatsAre(known, rowOf(head, new int[] {5, 4, 3, 2, 1}, known), fed, slops, best);
    }

    private static void saws() {
        Edge.terms("III", "SAWS: a set of PAIRS, no two of which share a person, of as many as there can be (half of all people, the lower WHOLE), "
            + "plain and hinged ones sawn till they can FEED, each by as few inches as can be, NOW (a HANDLE that is too short can't be): "
            + "of fewest inches together, of like ones the least bits.");
        Edge.due("none of one", Tables.alone().saws(), 0);
        Edge.due("two: an inch too short", two(0, 0, 9, 8, "plain").saws(), -2);
        Edge.due("two: as long as it need be", two(0, 0, 9, 9, "plain").saws(), 0);
        Edge.due("two: an inch too long", two(0, 0, 9, 10, "plain").saws(), 1);
        Edge.due("hinged, by the half", two(0, 0, 9, 20, "hinged").saws(), 1);
        Edge.due("hinged, by the whole", two(0, 0, 9, 17, "hinged").saws(), 8);
        Edge.due("ringed, near", two(0, 0, 1, 9, "ringed").saws(), 0);
        Edge.due("ringed, too short", two(0, 0, 2, 9, "ringed").saws(), -2);
        Edge.due("ringed, by slack", two(3, 0, 4, 9, "ringed").saws(), 0);
        // ab cd by 1 and 3, ac bd by 2 and 2, ad bc by 0 and 4; a d is the first told, then a c, a b.
        SpoonTable x = Tables.of(TEN, "person a at 0", "person b at 1", "person c at 2", "person d at 3", "known a d years 3 plain",
            "known a c years 4 plain", "known a b years 2 plain", "known b d years 4 plain", "known c d years 4 plain",
            "known b c years 5 plain").get();
        Edge.due("like ones", x.saws(), 4);
        // Bits 0 and 5, 1 and 3, 2 and 4: the least is that of 1 and 3.
        int[] of = {0, 2, 0, 2, 0, 0};
        for (int k = 0; k < 6; k++) {
            Edge.due("the least bits, sawsOf(" + k + ")", x.sawsOf(k), of[k]);
        }
        x.sit(3, 4);
        // Now a d are too short; ab cd by 1 and 2, ac bd by 2 and 1.
        Edge.due("now", x.saws(), 3);
        Edge.due("now, sawsOf(3)", x.sawsOf(3), 1);
        x.year();
        Edge.due("a year on, ad bc by 0 and 5", x.saws(), 5);
    }

    private static void meet() {
        Edge.terms("III", "MEET for n years: people who don't know each other made known NOW, as plain ones (0 years), fewest two and two, "
            + "so that behind n years at most one isn't FED: of like ones the least bits (of two people a, b, a the lesser, from 0: "
            + "the bit of how many twos come ahead, by a, then by b).");
        // Each two of five by itself: the others 3 or more apart, behind 1 year. Two others are ringed and side by side.
        int bit = 0;
        for (int a = 0; a < 5; a++) {
            for (int b = a + 1; b < 5; b++) {
                Edge.due("the bit of " + a + " and " + b, only(a, b).meetAt(1), 1 << bit);
                Edge.due("one two, " + a + " and " + b, only(a, b).meet(1), 1);
                bit++;
            }
        }
        // One new two (a d) rather than two of lesser bits: b c feed by their ring.
        SpoonTable x = Tables.of("seats 10 slack 1 saw 1 quarrel 0", "person a at 0", "person b at 1", "person c at 2", "person d at 3",
            "known b c years 9 ringed").get();
        Edge.due("fewest", x.meet(2), 1);
        Edge.due("fewest, as bits", x.meetAt(2), 4);
        Edge.due("it is thought of only", x.size(6), 1);
        // Known ones that can't feed may not meet anew.
        x = Tables.of(TEN, "person a at 0", "person b at 1", "known a b years 9 plain").get();
        Edge.due("they know each other", x.meet(1), -2);
    }

    /** a and b side by side, two others, too, who are ringed; the fifth far from all. */
    private static SpoonTable only(int a, int b) {
        String[] lines = new String[7];
        lines[0] = TEN;
        int[] others = new int[3];
        int n = 0;
        for (int p = 0; p < 5; p++) {
            if (p != a && p != b) {
                others[n++] = p;
            }
        }
        for (int p = 0; p < 5; p++) {
            int seat = p == a ? 0 : p == b ? 1 : p == others[0] ? 4 : p == others[1] ? 5 : 9;
            lines[p + 1] = "person " + (char) ('a' + p) + " at " + seat;
        }
        lines[6] = "known " + (char) ('a' + others[0]) + " " + (char) ('a' + others[1]) + " years 0 ringed";
        return Tables.of(lines).get();
    }

    private static void noneLeaves() {
        Edge.terms("III", "A MATCH that NONE LEAVES: there are no two who can FEED, and aren't a PAIR of it, each of whom isn't FED by it, "
            + "or would rather have the other: each rather has the one of the longer HANDLE, of like ones the person of the lesser number.");
        String head = "seats 10 slack 3 saw 1 quarrel 0;person a at 0;person b at 1;person c at 2";
        // The longer handle by an inch; like ones; an inch shorter.
        for (int years = 1; years <= 3; years++) {
            SpoonTable x = Tables.of(head, "known b c years " + years + " plain", "known a b years 2 plain").get();
            Edge.due("one is left, " + years, x.stable(), 1);
            Edge.due("b has a or c, " + years, x.stableAt(0), years > 2 ? 1 : 2);
        }
        SpoonTable x = Tables.of(head, "known a c years 2 plain", "known a b years 2 plain").get();
        Edge.due("a has b, not c, of like handles", x.stableAt(0), 2);
        x = Tables.of(head, "known a c years 9 plain", "known a b years 2 plain").get();
        Edge.due("who can't feed don't leave", x.stableAt(0), 2);
        x = Tables.of(head, "known a c years 4 hinged", "known a b years 3 plain").get();
        Edge.due("a hinged handle counts whole", x.stableAt(0), 1);
        x = Tables.of(head, "known a c years 9 ringed", "known a b years 2 plain").get();
        Edge.due("a ring counts 1", x.stableAt(0), 2);
        x = Tables.of(head, "known a b years 1 plain").get();
        Edge.due("two who aren't fed would", x.stableAt(0), 1);
    }

    private static void fits() {
        String head = "seats 10 slack 0 saw 2 quarrel 0;person a at 0;person b at 1;person c at 3;"
            + "known a b years 1 plain;known b c years 2 plain;known a c years 3 ringed";
        Edge.terms("III", "FITS: sets of unsure PAIRS whose years at first were the other ones by which all tried could FEED, or not, so: all such.");
        Edge.due("the empty set", Tables.of(head).get().fits(), 1);
        Edge.due("fed by both years", Tables.of(head, "unsure a b 1", "tried a b fed").get().fits(), 2);
        Edge.due("fed by years as told", Tables.of(head, "unsure a b 2", "tried a b fed").get().fitAt(0), 0);
        Edge.due("starved by the other ones", Tables.of(head, "unsure a b 2", "tried a b starved").get().fitAt(0), 1);
        Edge.due("a ring is 1, whatever its years", Tables.of(head, "unsure a c 1", "tried a c starved").get().fits(), 2);
        Edge.due("a ring, 3 apart, wasn't fed", Tables.of(head, "unsure a c 3", "tried a c fed").get().fits(), 0);
        SpoonTable x = Tables.of(head, "unsure a b 2", "tried a b fed").get();
        x.year();
        x.quarrel(0);
        x.sit(1, 2);
        Edge.due("at first, whatever was done since", x.fits(), 1);

        Edge.terms("III", "ASK: the unsure PAIR (by its number among the unsure ones as told, 0 ..) by which, it being told, "
            + "at most fewest FITS are left, the first such.");
        // Of b c, told first, all is known; a b halves them.
        x = Tables.of(head, "unsure b c 9", "unsure a b 2", "tried b c fed").get();
        Edge.due("the one that halves", x.ask(), 1);
        Edge.due("left at most", x.askLeaves(), 1);
        x = Tables.of(head, "unsure b c 9", "unsure a b 2").get();
        Edge.due("like ones: the first", x.ask(), 0);
        Edge.due("left at most", x.askLeaves(), 2);
    }

    private static void sawOrSit() {
        Edge.terms("III", "ONE and OTHER each saw or sit: both saw: 0 less pride each; who saws alone has 0, the other one 4; both sit: 2 each.");
        SpoonTable x = Tables.alone();
        for (int pride = 0; pride <= 9; pride++) {
            int[] ofOne = {2, 4, 0, -pride};
            int[] ofOther = {2, 0, 4, -pride};
            for (int ways = 0; ways < 4; ways++) {
                Edge.due("the one's, " + ways, x.saw(pride, ways >= 2, ways % 2 == 1, false), ofOne[ways]);
                Edge.due("the other's, " + ways, x.saw(pride, ways >= 2, ways % 2 == 1, true), ofOther[ways]);
            }
        }
        Edge.terms("III", "REST: a pair by which neither could have more alone.");
        for (int pride = 0; pride <= 9; pride++) {
            Edge.due("both sit alone, " + pride, x.rests(pride), 1);
            Edge.due("both sit, " + pride, x.rest(pride), 0);
        }
    }

    private static SpoonTable quarrelling(int saw, int quarrel, int years, String kind) {
        return Tables.of("seats 10 slack 0 saw " + saw + " quarrel " + quarrel, "person a at 0", "person b at 1",
            "known a b years " + years + " " + kind).get();
    }

    private static void quarrels() {
        Edge.terms("III", "QUARRELS by chance: in each year each PAIR, when it is a year longer, quarrels, as likely as told, each for itself: "
            + "saw inches are SAWN, or all it has, if that is fewer");
        for (int saw = 1; saw <= 9; saw++) {
            for (int years = 0; years <= 9; years++) {
                SpoonTable x = quarrelling(saw, 100, years, "plain");
                Edge.due("saw " + saw + " of " + years + ", a year longer", x.mean(0, 1, false), Math.max(0, years + 1 - saw));
                Edge.due("never", quarrelling(saw, 0, years, "hinged").mean(0, 8, false), years + 8);
            }
        }
        Edge.due("1 in a hundred, upper", quarrelling(1, 1, 0, "plain").odds(0, 1, false), 99);
        Edge.due("1 in a hundred, lower", quarrelling(1, 1, 0, "plain").odds(0, 1, true), 100);
        Edge.due("99 in a hundred, upper", quarrelling(1, 99, 0, "plain").odds(0, 1, false), 1);
        Edge.due("99 in a hundred, lower", quarrelling(1, 99, 0, "plain").odds(0, 1, true), 100);

        Edge.terms("III", "(so that it is 0 then, and 1 a year on; of 0, and of ringed ones, nothing is SAWN).");
        Edge.due("0 then", quarrelling(9, 100, 0, "plain").drawnHandle(0, 0, 1), 0);
        // 74 isn't below 50, 24 is, 52 isn't: 1, then 2 less 2, then 1.
        Edge.due("1 a year on", quarrelling(9, 50, 0, "plain").drawnHandle(0, 0, 3), 1);
        SpoonTable x = quarrelling(9, 50, 1, "plain");
        Edge.due("0 then", x.quarrel(0), 0);
        Edge.due("of 0 nothing", x.quarrel(0), -1);
        Edge.due("sawn", x.pair(0, 5), 1);
        x.year();
        Edge.due("1 a year on", x.pair(0, 3), 1);
        x = quarrelling(9, 100, 9, "ringed");
        Edge.due("of a ring nothing", x.quarrel(0), -1);
        Edge.due("sawn of a ring", x.pair(0, 5), 0);
        Edge.due("the mean of a ring", x.mean(0, 8, false), 1);
        Edge.due("a ring by draws", x.drawnHandle(0, 7, 60), 1);
    }

    private static void draws() {
        Edge.terms("III", "By a SEED: year by year, PAIR by PAIR, a DRAW mod 100: below quarrel they do "
            + "(a DRAW is what SEED becomes: (75 times SEED and 74) mod 65,537).");
        SpoonTable x = Tables.of("seats 10 slack 0 saw 3 quarrel 40", "person a at 0", "person b at 1", "person c at 2",
            "known a b years 5 plain", "known b c years 5 ringed", "known a c years 0 hinged").get();
        int[] kinds = {0, 2, 1};
        for (int seed : new int[] {0, 1, 872, 873, 874, 1747, 30000, 65535, 65536}) {
            int[] handles = {5, 1, 0};
            long drawn = seed;
            for (int n = 0; n <= 12; n++) {
                for (int k = 0; k < 3; k++) {
                    Edge.due("seed " + seed + ", pair " + k + ", behind " + n, x.drawnHandle(k, seed, n), handles[k]);
                    drawn = (75 * drawn + 74) % 65537;
                    if (kinds[k] != 2) {
                        handles[k] = Math.max(0, handles[k] + 1 - (drawn % 100 < 40 ? 3 : 0));
                    }
                }
            }
        }
    }

    private static void acts() {
        Edge.terms("III", "ACTS: YEAR, QUARREL of a PAIR, SIT (one at a free SEAT), KNOW (two more, plain, 0 years).");
        SpoonTable x = Tables.busy();
        Edge.due("three", x.size(10), 3);
        Edge.due("a year", x.year() >= 0, true);
        Edge.due("a quarrel", x.quarrel(0), 2);
        Edge.due("a seat", x.sit(0, 2), 0);
        Edge.due("acquaintance", x.know(2, 0), 2);
        Edge.due("seven", x.size(10), 7);
        Edge.due("plain", x.pair(2, 4), 0);
        Edge.due("0 years", x.pair(2, 2), 0);
        Edge.due("a seat that is not free", x.sit(0, 4), -1);
        Edge.due("seven still", x.size(10), 7);

        Edge.terms("III", "UNDO: the latest (16 are kept).");
        // Seventeen: know, then each of the others by turns.
        x = Tables.busy();
        x.back(0);
        x.know(0, 2);
        for (int i = 0; i < 16; i++) {
            switch (i % 4) {
                case 0: case 1: x.year(); break;
                case 2: x.quarrel(0); break;
                default: x.sit(0, i % 8 == 3 ? 1 : 0); break;
            }
        }
        Edge.due("kept", x.size(10), 16);
        // a b had 3 inches; eight years on, sawn by 2 four times.
        Edge.due("handle", x.pair(0, 3), 3 + 8 - 8);
        for (int i = 0; i < 16; i++) {
            Edge.due("undo " + i, x.undo(), true);
        }
        Edge.due("handle as it was", x.pair(0, 3), 3);
        Edge.due("seat as it was", x.seat(0), 0);
        Edge.due("years gone by as they were", x.size(9), 1);
        Edge.due("the seventeenth is not kept", x.undo(), false);
        Edge.due("and stands", x.size(6), 3);
    }

    private static void images() {
        Edge.terms("III", "IMAGES: up to 3; gone back to one, nothing can be undone.");
        SpoonTable x = Tables.alone();
        for (int i = 0; i < 3; i++) {
            Edge.due("image " + i, x.image(), i);
            x.year();
        }
        Edge.due("a fourth", x.image(), -1);
        Edge.due("acts", x.size(10), 3);
        Edge.due("back", x.back(2), true);
        Edge.due("nothing can be undone", x.undo(), false);
        Edge.due("gone by", x.size(9), 2);
        x.year();
        Edge.due("what was done since can", x.undo(), true);
        Edge.due("and no more", x.undo(), false);
        Edge.due("gone by", x.size(9), 2);
    }

    // ---- terms IV

    /** All calls that may be refused, as they are not on a busy table. */
    private static Map<String, ToLongFunction<SpoonTable>> accepted() {
        Map<String, ToLongFunction<SpoonTable>> all = new LinkedHashMap<>();
        all.put("seat", x -> x.seat(0));
        all.put("pair", x -> x.pair(0, 0));
        all.put("pairOf", x -> x.pairOf(0, 2));
        all.put("feeders", x -> x.feeders(0));
        all.put("forks", x -> x.forks(0, 1));
        all.put("fed", SpoonTable::fed);
        all.put("match", SpoonTable::match);
        all.put("slops", SpoonTable::slops);
        all.put("mate", x -> x.mate(0));
        all.put("starving", SpoonTable::starving);
        all.put("matches", SpoonTable::matches);
        all.put("handleIn", x -> x.handleIn(0, 60));
        all.put("feedsIn", x -> x.feedsIn(0));
        all.put("feedsOften", x -> x.feedsOften(0));
        all.put("fedIn", x -> x.fedIn(60));
        all.put("bestYear", SpoonTable::bestYear);
        all.put("allIn", SpoonTable::allIn);
        all.put("seating", SpoonTable::seating);
        all.put("seatAt", x -> x.seatAt(0));
        all.put("seatSlops", SpoonTable::seatSlops);
        all.put("swapped", x -> x.swapped(0, 1));
        all.put("bestSwap", SpoonTable::bestSwap);
        all.put("better", x -> x.better(0));
        all.put("forkAt", SpoonTable::forkAt);
        all.put("saws", SpoonTable::saws);
        all.put("sawsOf", x -> x.sawsOf(0));
        all.put("meet", x -> x.meet(60));
        all.put("meetAt", x -> x.meetAt(60));
        all.put("stable", SpoonTable::stable);
        all.put("stableAt", x -> x.stableAt(0));
        all.put("leaves", SpoonTable::leaves);
        all.put("fits", SpoonTable::fits);
        all.put("could", SpoonTable::could);
        all.put("surely", SpoonTable::surely);
        all.put("ask", SpoonTable::ask);
        all.put("askLeaves", SpoonTable::askLeaves);
        all.put("judge", SpoonTable::judge);
        all.put("saw", x -> x.saw(9, true, true, true));
        all.put("rests", x -> x.rests(9));
        all.put("rest", x -> x.rest(9));
        all.put("odds", x -> x.odds(0, 8, true));
        all.put("mean", x -> x.mean(0, 8, true));
        all.put("drawnHandle", x -> x.drawnHandle(0, 65536, 60));
        all.put("drawnFed", x -> x.drawnFed(65536, 60));
        all.put("year", SpoonTable::year);
        all.put("quarrel", x -> x.quarrel(0));
        all.put("sit", x -> x.sit(0, 1));
        all.put("know", x -> x.know(0, 2));
        all.put("undo", x -> x.undo() ? 1 : 0);
        all.put("image", SpoonTable::image);
        all.put("back", x -> x.back(0) ? 1 : 0);
        return all;
    }

    private static void trouble() {
        Edge.terms("IV", "IV. TROUBLE of the latest call that may be refused (those of which a number is told here):");
        Supplier<SpoonTable> busy = Tables::busy;
        for (Map.Entry<String, ToLongFunction<SpoonTable>> call : accepted().entrySet()) {
            SpoonTable x = busy.get();
            Edge.due("a FAULT ahead of " + call.getKey(), x.trouble(), 4);
            call.getValue().applyAsLong(x);
            Edge.due(call.getKey() + " wasn't refused, -2 or not", x.trouble(), 0);
            Edge.due("where() behind " + call.getKey(), x.where(), -1);
            x = new SpoonTable();
            call.getValue().applyAsLong(x);
            Edge.due(call.getKey() + " without a TABLE", x.trouble(), call.getKey().equals("undo") ? 6 : 1);
        }

        Edge.terms("IV", "0 it wasn't; 1 there is none such; 2 a number; 3 no room; 4 a FAULT; 5 not so; 6 there is none.");
        SpoonTable x = Tables.full();
        x.seat(4);
        Edge.due("it wasn't", x.trouble(), 0);
        x.seat(5);
        Edge.due("there is none such", x.trouble(), 1);
        x.fedIn(61);
        Edge.due("a number", x.trouble(), 2);
        x.image();
        Edge.due("no room", x.trouble(), 3);
        x.know(0, 1);
        Edge.due("not so", x.trouble(), 5);
        x.back(0);
        Edge.due("it wasn't", x.trouble(), 0);
        x.undo();
        Edge.due("there is none", x.trouble(), 6);
        x.table(1);
        Edge.due("a FAULT", x.trouble(), 4);
        x.feed(1, 2, 3, 4, 5);
        x.size(99);
        Edge.due("of calls of which no number is told nothing", x.trouble(), 4);
    }

    private static void constants() {
        Edge.terms("IV", "The constants: `NONE = -1`: There is none; refused.");
        Edge.due("NONE", SpoonTable.NONE, -1);
        Edge.due("refused", new SpoonTable().fed(), SpoonTable.NONE);
    }
}
