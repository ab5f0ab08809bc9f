import java.util.ArrayList;
import java.util.List;

/** Promises 1 to 5 at their edges: the tape, the table, its fault. */
public final class EdgeTableTest {
    private static final String HEAD = "table seats 6 slack 1 saw 2 quarrel 5";
    private static final String ONE = HEAD + ";person a at 0";

    public static void main(String[] args) {
        noTable();
        bytesInOrder();
        noMoreThan800();
        tablesOfEverySize();
        theFirstBytesOnly();
        aNewTable();
        refusedNumbers();
        refusedTexts();
        faultOfTheLatest();
        placeOfTheLatest();
        Edge.end(1, 5);
    }

    private static void noTable() {
        Edge.promise(1, "No TABLE.");
        SpoonTable x = new SpoonTable();
        for (int what = 0; what <= 12; what++) {
            Edge.due("size(" + what + ")", x.size(what), 0);
        }
        Edge.due("trouble()", x.trouble(), 0);
        Edge.due("fault()", x.fault(), 0);
        Edge.due("where()", x.where(), -1);
        Edge.due("led(0) throws", Check.led(x, 0), -1);
        Edge.due("undo()", x.undo(), false);
        Edge.due("back(0)", x.back(0), false);
        Edge.due("fed()", x.fed(), -1);
        Edge.due("the first of the tape", x.feed(0, 0, 0, 0, 0), 20);
    }

    /** Blanks with one other byte, which is the FORM's place wherever it stands. */
    private static void bytesInOrder() {
        Edge.promise(2, "Twenty bytes come behind THE TAPE, of each number the highest first: how many it has;");
        int blanks = 0x20202020;
        for (int other : new int[] {0, 31, 33, 127, 128, 255}) {
            for (int place = 0; place < 20; place++) {
                int[] numbers = {blanks, blanks, blanks, blanks, blanks};
                int shift = 24 - 8 * (place % 4);
                numbers[place / 4] = blanks & ~(255 << shift) | other << shift;
                SpoonTable x = new SpoonTable();
                Edge.due("the first", x.feed(blanks, blanks, blanks, blanks, blanks), 20);
                Edge.due("the second", x.feed(numbers[0], numbers[1], numbers[2], numbers[3], numbers[4]), 40);
                Edge.due("size(12)", x.size(12), 40);
                Edge.due("table(40)", x.table(40), -1);
                Edge.due("the place of byte " + other, x.where(), 20 + place);
            }
        }
    }

    /** So many bytes of a table that goes on to the last of them. */
    private static SpoonTable taped(int bytes) {
        SpoonTable x = new SpoonTable();
        String behind = "person b at 1";
        Check.feed(x, ONE + ";" + " ".repeat(bytes - ONE.length() - 1 - behind.length()) + behind);
        return x;
    }

    private static void noMoreThan800() {
        Edge.promise(2, "NONE, and none comes, if there would be more than 800.");
        SpoonTable x = taped(780);
        Edge.due("780", x.size(12), 780);
        Edge.due("up to 800", x.feed(0x20202020, 0x20202020, 0x20202020, 0x20202020, 0x20202020), 800);
        Edge.due("table(800)", x.table(800), 2);
        x = taped(800);
        x.seat(0);
        Edge.due("more than 800", x.feed(1, 2, 3, 4, 5), -1);
        Edge.due("feed tells no number", x.trouble(), 1);
        Edge.due("more than 800 again", x.feed(-1, -1, -1, -1, -1), -1);
        Edge.due("size(12)", x.size(12), 800);
        Edge.due("table(800)", x.table(800), 2);
        Edge.due("room again", x.feed(1, 2, 3, 4, 5), 20);
        Edge.stays("feed() onto 800", () -> taped(800), y -> y.feed(1, 2, 3, 4, 5));
        Edge.stays("feed() onto a full one", Tables::full, y -> y.feed(1, 2, 3, 4, 5));
    }

    private static void tablesOfEverySize() {
        Edge.promise(3, "The first n bytes of THE TAPE (it is empty then) are the TABLE from now on");
        SpoonTable x = new SpoonTable();
        Edge.due("the smallest", Check.lay(x, Tables.SMALL), 1);
        sizesAre(x, 2, 0, 1, 0, 1, 0, 0, 0, 0, 0, 0, 0, 0);
        Edge.due("the largest", Check.lay(x, Tables.FULL), 5);
        sizesAre(x, 10, 3, 9, 100, 5, 4, 10, 4, 6, 0, 0, 0, 0);
        x = taped(800);
        Edge.due("of all 800 bytes", x.table(800), 2);
        Edge.due("the tape is empty", x.size(12), 0);
        Edge.due("seat(1)", x.seat(1), 1);
    }

    private static void sizesAre(SpoonTable x, int... due) {
        for (int what = 0; what < due.length; what++) {
            Edge.due("size(" + what + ")", x.size(what), due[what]);
        }
    }

    private static void theFirstBytesOnly() {
        Edge.promise(3, "The first n bytes of THE TAPE (it is empty then) are the TABLE from now on");
        String text = HEAD + ";person a at 5;person b at 1";
        for (int n = 0; n <= text.length(); n++) {
            SpoonTable x = new SpoonTable();
            Check.feed(x, text);
            int people = n == text.length() ? 2 : n == HEAD.length() + 14 ? 1 : -1;
            Edge.due("table(" + n + ")", x.table(n), people);
            Edge.due("trouble() behind table(" + n + ")", x.trouble(), people < 0 ? 4 : 0);
            Edge.due("size(12) behind table(" + n + ")", x.size(12), 0);
        }
    }

    private static void aNewTable() {
        Edge.promise(3, "(no year gone by, nothing SAWN; nothing to undo, no IMAGES): how many people.");
        SpoonTable x = Tables.full();
        Edge.due("acts", x.size(10), 16);
        Edge.due("images", x.size(11), 3);
        x.table(0);
        Edge.due("table()", Check.lay(x, Tables.FULL), 5);
        Edge.due("trouble()", x.trouble(), 0);
        Edge.due("years gone by", x.size(9), 0);
        int[] years = {2, 99, 0, 9, 2, 4, 99, 0, 10, 3};
        for (int k = 0; k < 10; k++) {
            Edge.due("sawn of " + k, x.pair(k, 5), 0);
            Edge.due("years of " + k, x.pair(k, 2), years[k]);
        }
        Edge.due("seats are as told", x.seat(4), 9);
        Edge.due("images", x.size(11), 0);
        Edge.due("back(0)", x.back(0), false);
        Edge.due("trouble()", x.trouble(), 1);
        Edge.due("acts", x.size(10), 0);
        Edge.due("undo()", x.undo(), false);
        Edge.due("trouble()", x.trouble(), 6);
        Edge.due("the first image again", x.image(), 0);
        Edge.due("what all sat by is gone, too", x.seating(), 4);
        Edge.due("of fewer people", Check.lay(x, Tables.SMALL), 1);
        Edge.due("seats for all, anew", x.seating(), 0);
        Edge.due("no pair is left", x.size(6), 0);
        Edge.due("seat(1)", x.seat(1), -1);
        String pair = HEAD + ";person a at 0;person b at 5;known a b years 5 plain;tried a b ";
        Check.lay(x, pair + "fed");
        Edge.due("fed, as tried", x.judge(), -2);
        Check.lay(x, pair + "starved");
        Edge.due("starved, not as tried", x.judge(), 0);
        Check.lay(x, pair + "fed;");
        Check.lay(x, pair + "starved");
        Edge.due("nor behind a refused text", x.judge(), 0);
    }

    private static void refusedNumbers() {
        Edge.promise(3, "NONE: 2 (THE TAPE stays);");
        Edge.outside("table() without a tape", SpoonTable::new, 0, 0, SpoonTable::table, -1, 2);
        Edge.outside("table() of 20", Tables::busy, 0, 20, SpoonTable::table, -1, 2);
        Edge.outside("table() of 800", Tables::full, 0, 800, SpoonTable::table, -1, 2);
        SpoonTable x = taped(800);
        x.table(801);
        Edge.due("the tape stays", x.size(12), 800);
        Edge.due("and is a table still", x.table(800), 2);
    }

    private static void refusedTexts() {
        Edge.promise(3, "4 (the TABLE stays).");
        for (int n : new int[] {0, 1, 20}) {
            SpoonTable x = Tables.busy();
            x.fed();
            Edge.due("table(" + n + ")", x.table(n), -1);
            Edge.due("trouble() behind table(" + n + ")", x.trouble(), 4);
            Edge.due("fault() behind table(" + n + ")", x.fault(), 1);
            Edge.due("where() behind table(" + n + ")", x.where(), n > 0 && n < 5 ? 0 : n);
            Edge.due("the tape is empty", x.size(12), 0);
        }
        for (int part = 0; part < 4; part++) {
            SpoonTable x = Tables.busy();
            SpoonTable y = Tables.busy();
            x.table(20);
            Edge.alike("a refused text", butTape(Telling.of(x, part)), butTape(Telling.of(y, part)));
            x = Tables.full();
            y = Tables.full();
            x.table(0);
            Edge.alike("no text", butTape(Telling.of(x, part)), butTape(Telling.of(y, part)));
        }
        SpoonTable x = new SpoonTable();
        Edge.due("the first refused", Check.lay(x, HEAD), -1);
        Edge.due("no TABLE still", x.fed(), -1);
        Edge.due("size(0)", x.size(0), 0);
    }

    private static List<String> butTape(List<String> rows) {
        List<String> left = new ArrayList<>(rows);
        left.removeIf(row -> row.startsWith("size(12)") || row.startsWith("fault()"));
        return left;
    }

    private static void faultOfTheLatest() {
        Edge.promise(4, "The FAULT of the latest table() not refused by 2; 0 without one.");
        SpoonTable x = new SpoonTable();
        Edge.due("ahead of all", x.fault(), 0);
        x.table(1);
        Edge.due("behind a first one refused by 2", x.fault(), 0);
        String[] texts = {";", ONE + ";known z", ONE + ";table", "table seats 0", ONE + ";fork 0;fork 1;fork 2;fork 3;fork", HEAD};
        for (int number = 1; number <= 6; number++) {
            Check.lay(x, texts[number - 1]);
            Edge.due("fault()", x.fault(), number);
            x.table(1);
            Edge.due("fault() behind one refused by 2", x.fault(), number);
            x.fed();
            x.undo();
            Edge.due("fault() behind others", x.fault(), number);
        }
        Check.lay(x, ONE);
        Edge.due("without one", x.fault(), 0);
        x.table(1);
        Edge.due("without one, then refused by 2", x.fault(), 0);
        Check.lay(x, ";");
        Edge.due("of the latest, though the TABLE stays", x.fault(), 1);
    }

    private static void placeOfTheLatest() {
        Edge.promise(5, "Its place, if the latest call that may be refused was by 4; NONE else.");
        SpoonTable x = new SpoonTable();
        Edge.due("ahead of all", x.where(), -1);
        x.table(0);
        Edge.due("the least place", x.where(), 0);
        Check.feed(x, " ".repeat(800));
        x.feed(0, 0, 0, 0, 0);
        Edge.due("behind feed()", x.where(), 0);
        x.table(800);
        Edge.due("the greatest place", x.where(), 800);
        x.fault();
        x.where();
        x.trouble();
        x.size(0);
        x.size(13);
        Check.led(x, 0);
        Edge.due("behind calls that aren't refused by a number", x.where(), 800);
        x.table(1);
        Edge.due("refused by 2", x.where(), -1);
        x.table(0);
        x.fed();
        Edge.due("refused by 1", x.where(), -1);
        x.table(0);
        x.undo();
        Edge.due("refused by 6", x.where(), -1);
        Check.lay(x, ONE);
        Edge.due("not refused", x.where(), -1);
        x.table(0);
        x.sit(0, 0);
        Edge.due("refused by 5", x.where(), -1);
        x.table(0);
        x.fed();
        Edge.due("another, not refused", x.where(), -1);
        Edge.due("though the FAULT stays", x.fault(), 1);
    }
}
