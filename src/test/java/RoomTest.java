import java.lang.management.ManagementFactory;
import java.lang.reflect.Array;
import java.lang.reflect.Field;
import java.lang.reflect.Modifier;
import java.util.ArrayList;
import java.util.IdentityHashMap;
import java.util.List;
import java.util.Map;

/** All calls of a run live in one room: what an object takes of it, and that no call takes more. */
public final class RoomTest {
    private static final int OBJECTS_IN_ALL = 600_000;
    private static final int FIELDS_IN_ALL = 7_300_000;
    /** So many objects of the class should fit into the room. */
    private static final int TABLES = 2_000;

    private int objects;
    private int fields;

    public static void main(String[] args) throws Exception {
        RoomTest taken = new RoomTest();
        taken.count(new SpoonTable());
        Check.due("objects of " + TABLES + " tables: each has " + taken.objects,
            taken.objects * TABLES <= OBJECTS_IN_ALL, true);
        Check.due("fields and elements of " + TABLES + " tables: each has " + taken.fields,
            taken.fields * TABLES <= FIELDS_IN_ALL, true);
        RoomTest later = new RoomTest();
        later.count(Tables.full());
        Check.due("objects of a full table", later.objects, taken.objects);
        Check.due("fields and elements of a full table", later.fields, taken.fields);
        if (ManagementFactory.getThreadMXBean() instanceof com.sun.management.ThreadMXBean bean) {
            callsMakeNothing(bean);
        }
        Check.end();
    }

    private void count(Object from) throws IllegalAccessException {
        Map<Object, Boolean> seen = new IdentityHashMap<>();
        List<Object> left = new ArrayList<>(List.of(from));
        while (!left.isEmpty()) {
            Object next = left.remove(left.size() - 1);
            if (seen.put(next, true) != null) {
                continue;
            }
            objects++;
            if (next.getClass().isArray()) {
                fields += Array.getLength(next);
                if (next instanceof Object[] all) {
                    left.addAll(List.of(all));
                }
            } else {
                countFields(next, left);
            }
        }
    }

    private void countFields(Object of, List<Object> left) throws IllegalAccessException {
        for (Field f : of.getClass().getDeclaredFields()) {
            if (!Modifier.isStatic(f.getModifiers())) {
                fields++;
                f.setAccessible(true);
                if (!f.getType().isPrimitive() && f.get(of) != null) {
                    left.add(f.get(of));
                }
            }
        }
    }

    private static void callsMakeNothing(com.sun.management.ThreadMXBean bean) {
        // What is loaded at the first use of a class is not the calls'.
        allCalls(Tables.full(), 1);
        bean.getCurrentThreadAllocatedBytes();
        SpoonTable[] all = {new SpoonTable(), Tables.alone(), Tables.busy(), Tables.full(), Tables.allFeed()};
        for (int i = 0; i < all.length; i++) {
            for (int number = -1; number <= 11; number++) {
                long before = bean.getCurrentThreadAllocatedBytes();
                allCalls(all[i], number);
                long made = bean.getCurrentThreadAllocatedBytes() - before;
                Check.due("bytes made by all calls of " + number + " on table " + i, made, 0);
            }
        }
    }

    private static void allCalls(SpoonTable x, int number) {
        theTable(x, number);
        now(x, number);
        seatsAndSaws(x, number);
        chances(x, number);
        acts(x, number);
        x.size(number);
        x.trouble();
        if (x.feeders(0) == 0) {
            x.led(0);
        }
    }

    private static void theTable(SpoonTable x, int number) {
        x.feed(number, number, number, number, number);
        if (x.size(4) != 1) {
            x.table(number);
        }
        x.fault();
        x.where();
    }

    private static void now(SpoonTable x, int number) {
        x.seat(number);
        x.pair(number, 3);
        x.pair(0, number);
        x.pairOf(0, number);
        x.feeders(number);
        x.forks(0, number);
        x.fed();
        x.match();
        x.slops();
        x.mate(number);
        x.starving();
        x.matches();
        x.handleIn(0, number);
        x.feedsIn(number);
        x.feedsOften(number);
        x.fedIn(number);
        x.bestYear();
        x.allIn();
    }

    private static void seatsAndSaws(SpoonTable x, int number) {
        x.seating();
        x.seatAt(number);
        x.seatSlops();
        x.swapped(0, number);
        x.bestSwap();
        x.better(number);
        x.forkAt();
        x.saws();
        x.sawsOf(number);
        x.meet(number);
        x.meetAt(number);
        x.stable();
        x.stableAt(number);
        x.leaves();
        x.fits();
        x.fitAt(number);
        x.could();
        x.surely();
        x.ask();
        x.askLeaves();
        x.judge();
    }

    private static void chances(SpoonTable x, int number) {
        x.saw(number, true, false, true);
        x.rests(number);
        x.rest(number);
        x.odds(0, number, true);
        x.mean(number, 8, false);
        x.drawnHandle(0, number, 60);
        x.drawnFed(1, number);
    }

    private static void acts(SpoonTable x, int number) {
        x.image();
        x.year();
        x.quarrel(number);
        x.sit(0, number);
        x.know(number, 2);
        x.undo();
        x.back(number - 1);
    }
}
