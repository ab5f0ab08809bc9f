import java.util.LinkedHashMap;
import java.util.Map;
import java.util.NoSuchElementException;
import java.util.function.Consumer;
import java.util.function.Supplier;

/** Promises 58 to 60 at their edges: led, size, trouble. */
public final class EdgeToldTest {
    public static void main(String[] args) {
        led();
        notLed();
        sizes();
        otherSizes();
        troubles();
        troubleStays();
        Edge.end(58, 60);
    }

    // ---- led

    private static void led() {
        Edge.promise(58, "The i-th person, by numbers, whom nobody can FEED.");
        Edge.due("one alone", Check.led(Tables.alone(), 0), 0);
        SpoonTable x = Tables.five("seats 5 slack 0 saw 1 quarrel 0", 9, 9, 9, 9, 9, 9, 9, 9, 9, 9).get();
        for (int i = 0; i < 5; i++) {
            Edge.due("all five, " + i, Check.led(x, i), i);
        }
        // Only a can be fed, by e: 4 apart.
        x = Tables.five("seats 5 slack 0 saw 1 quarrel 0", 9, 9, 9, 4, 9, 9, 9, 9, 9, 9).get();
        for (int i = 0; i < 3; i++) {
            Edge.due("b, c, d: " + i, Check.led(x, i), i + 1);
        }
        x = Tables.five("seats 5 slack 0 saw 1 quarrel 0", 1, 9, 9, 9, 9, 9, 9, 1, 9, 9).get();
        Edge.due("the last alone", Check.led(x, 0), 4);
        x.year();
        Edge.due("a year on, the first", Check.led(x, 0), 0);
    }

    private static boolean throwsSo(SpoonTable x, int i) {
        try {
            x.led(i);
            return false;
        } catch (NoSuchElementException e) {
            return e.getClass() == NoSuchElementException.class;
        }
    }

    private static void noneLed(String what, Supplier<SpoonTable> made, int... numbers) {
        for (int i : numbers) {
            SpoonTable x = made.get();
            int trouble = x.trouble();
            int where = x.where();
            Edge.due(what + ": led(" + i + ") throws", throwsSo(x, i), true);
            Edge.due(what + ": TROUBLE stays", x.trouble(), trouble);
            Edge.due(what + ": where() stays", x.where(), where);
            Edge.stays(what + ": led(" + i + ")", made, y -> throwsSo(y, i) ? 1 : 0);
        }
    }

    private static void notLed() {
        Edge.promise(58, "NoSuchElementException if there is none such.");
        int min = Integer.MIN_VALUE;
        int max = Integer.MAX_VALUE;
        noneLed("no TABLE", SpoonTable::new, -1, 0, 1, min, max);
        noneLed("no TABLE, with a tape", Tables::onlyTape, -1, 0, 1, min, max);
        noneLed("one alone", Tables::alone, -1, 1, min, max);
        noneLed("all can be fed", Tables::allFeed, -1, 0, 1, 4, 5, min, max);
        noneLed("all can be fed now", Tables::busy, -1, 0, min, max);
        noneLed("all five", Tables.five("seats 5 slack 0 saw 1 quarrel 0", 9, 9, 9, 9, 9, 9, 9, 9, 9, 9), -1, 5, min, max);
    }

    // ---- size

    private static void sizesAre(String what, Supplier<SpoonTable> made, int... due) {
        for (int i = 0; i <= 12; i++) {
            Edge.due(what + ", size(" + i + ")", made.get().size(i), due[i]);
        }
    }

    private static void sizes() {
        Edge.promise(59, "0 seats, 1 slack, 2 saw, 3 quarrel, 4 people, 5 forks, 6 PAIRS NOW, 7 unsure ones, 8 tried ones, "
            + "9 years gone by, 10 ACTS that can be undone, 11 IMAGES, 12 bytes of THE TAPE.");
        sizesAre("the least", Tables::alone, 2, 0, 1, 0, 1, 0, 0, 0, 0, 0, 0, 0, 0);
        sizesAre("some", Tables::busy, 6, 1, 2, 30, 3, 2, 2, 1, 2, 1, 3, 2, 20);
        sizesAre("the most", Tables::full, 10, 3, 9, 100, 5, 4, 10, 4, 6, 11, 16, 3, 800);
        SpoonTable x = Tables.busy();
        x.know(0, 2);
        Edge.due("one more pair", x.size(6), 3);
        x.undo();
        x.undo();
        Edge.due("acts undone", x.size(10), 2);
        x.back(0);
        Edge.due("gone back", x.size(10), 0);
        x.image();
        Edge.due("one more image", x.size(11), 3);
        x.table(0);
        Edge.due("the tape is read", x.size(12), 0);
    }

    private static void otherSizes() {
        Edge.promise(59, "NONE for others; 0 for what there isn't.");
        sizesAre("no TABLE", SpoonTable::new, 0, 0, 0, 0, 0, 0, 0, 0, 0, 0, 0, 0, 0);
        sizesAre("no TABLE, with a tape", Tables::onlyTape, 0, 0, 0, 0, 0, 0, 0, 0, 0, 0, 0, 0, 20);
        Map<String, Supplier<SpoonTable>> all = new LinkedHashMap<>();
        all.put("no TABLE", SpoonTable::new);
        all.put("one alone", Tables::alone);
        all.put("some", Tables::busy);
        all.put("the most", Tables::full);
        for (Map.Entry<String, Supplier<SpoonTable>> made : all.entrySet()) {
            for (int what : new int[] {-1, 13, Integer.MIN_VALUE, Integer.MAX_VALUE}) {
                SpoonTable x = made.getValue().get();
                int trouble = x.trouble();
                Edge.due(made.getKey() + ", size(" + what + ")", x.size(what), -1);
                Edge.due(made.getKey() + ": TROUBLE stays", x.trouble(), trouble);
                Edge.stays("size(" + what + ")", made.getValue(), y -> y.size(what));
            }
        }
    }

    // ---- trouble

    private static void troubles() {
        Edge.promise(60, "TROUBLE.");
        SpoonTable x = new SpoonTable();
        Edge.due("at first", x.trouble(), 0);
        x.fed();
        Edge.due("there is none such", x.trouble(), 1);
        x.table(-1);
        Edge.due("a number", x.trouble(), 2);
        x.table(0);
        Edge.due("a FAULT", x.trouble(), 4);
        x.undo();
        Edge.due("there is none", x.trouble(), 6);
        Check.lay(x, Tables.SMALL);
        Edge.due("it wasn't", x.trouble(), 0);
        x.sit(0, 1);
        Edge.due("not so", x.trouble(), 5);
        x.image();
        x.image();
        x.image();
        Edge.due("it wasn't", x.trouble(), 0);
        x.image();
        Edge.due("no room", x.trouble(), 3);
        Edge.due("told again", x.trouble(), 3);
    }

    private static void troubleStays() {
        Edge.promise(60, "TROUBLE.");
        Map<String, Consumer<SpoonTable>> calls = new LinkedHashMap<>();
        calls.put("feed()", x -> x.feed(1, 2, 3, 4, 5));
        calls.put("fault()", SpoonTable::fault);
        calls.put("where()", SpoonTable::where);
        calls.put("led(0)", x -> Check.led(x, 0));
        calls.put("led(-1)", x -> Check.led(x, -1));
        calls.put("size(4)", x -> x.size(4));
        calls.put("size(-1)", x -> x.size(-1));
        calls.put("trouble()", SpoonTable::trouble);
        for (Map.Entry<String, Consumer<SpoonTable>> call : calls.entrySet()) {
            SpoonTable x = Tables.full();
            x.image();
            call.getValue().accept(x);
            Edge.due("behind " + call.getKey() + ", which tells no number", x.trouble(), 3);
            x = Tables.busy();
            call.getValue().accept(x);
            Edge.due("behind " + call.getKey() + ", a FAULT ahead", x.trouble(), 4);
            x.fed();
            call.getValue().accept(x);
            Edge.due("behind " + call.getKey() + ", none ahead", x.trouble(), 0);
        }
    }
}
