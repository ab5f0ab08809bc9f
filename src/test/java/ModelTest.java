import java.lang.reflect.InvocationTargetException;
import java.lang.reflect.Method;
import java.lang.reflect.Modifier;
import java.util.ArrayList;
import java.util.Comparator;
import java.util.List;
import java.util.Random;

/** Random runs of calls, up to 512 on one object, answered by the class and by the plain model alike. */
public final class ModelTest {
    private static final int RUNS = 600;
    private static final int CALLS = 200;
    private static final int SEATINGS = 60;
    private static final String[] KINDS = {"plain", "hinged", "ringed"};
    private static final String[] NAMES = {"ada", "b", "at", "years", "zzzzzzzz", "fed"};

    private final Random random;
    private final SpoonTable x = new SpoonTable();
    private final Model model = new Model();
    private final List<String> log = new ArrayList<>();

    private ModelTest(long seed) {
        random = new Random(seed);
    }

    public static void main(String[] args) throws Exception {
        int runs = args.length > 0 ? Integer.parseInt(args[0]) : RUNS;
        long from = args.length > 1 ? Long.parseLong(args[1]) : 0;
        List<Method> face = face();
        for (long seed = from; seed < from + runs; seed++) {
            new ModelTest(seed).run(face);
        }
        for (long seed = from; seed < from + Math.min(runs, SEATINGS); seed++) {
            new ModelTest(seed).seats();
        }
        Check.end();
    }

    private static List<Method> face() {
        List<Method> all = new ArrayList<>();
        for (Method m : SpoonTable.class.getDeclaredMethods()) {
            if (Modifier.isPublic(m.getModifiers())) {
                all.add(m);
            }
        }
        all.sort(Comparator.comparing(Method::getName));
        return all;
    }

    private void run(List<Method> face) throws Exception {
        for (int i = 0; i < CALLS; i++) {
            int dice = random.nextInt(100);
            if (i == 2 || dice < 2) {
                lay(text(false));
            } else if (dice < 6) {
                lay(text(true));
            } else {
                Method m = face.get(random.nextInt(face.size()));
                Object[] with = with(m);
                boolean dear = m.getName().startsWith("seat") && m.getName().length() > 4 && random.nextInt(8) > 0;
                if (!dear && !m.getName().equals("table")) {
                    both(m, with);
                }
            }
        }
    }

    /** The dearest search, on tables of whatever size. */
    private void seats() throws Exception {
        lay(text(false));
        both(SpoonTable.class.getMethod("seating"), new Object[0]);
        both(SpoonTable.class.getMethod("seatSlops"), new Object[0]);
        for (int p = 0; p < model.size(4); p++) {
            both(SpoonTable.class.getMethod("seatAt", int.class), new Object[] {p});
        }
    }

    private void both(Method m, Object[] with) throws Exception {
        String call = m.getName() + java.util.Arrays.toString(with);
        long got = answer(x, m, with);
        long want = answer(model, Model.class.getMethod(m.getName(), m.getParameterTypes()), with);
        log.add(call + " = " + want);
        if (got != want || x.trouble() != model.trouble()) {
            System.out.println(String.join("\n", log));
        }
        Check.due(call, got, want);
        Check.due("trouble behind " + call, x.trouble(), model.trouble());
        Check.due("where behind " + call, x.where(), model.where());
        Check.due("fault behind " + call, x.fault(), model.fault());
    }

    /** An exception counts as a number of its own. */
    private static long answer(Object on, Method m, Object[] with) throws Exception {
        try {
            Object got = m.invoke(on, with);
            return got instanceof Boolean b ? (b ? 1 : 0) : ((Number) got).longValue();
        } catch (InvocationTargetException e) {
            return -1000000 - e.getCause().getClass().getName().hashCode();
        }
    }

    private Object[] with(Method m) {
        Object[] all = new Object[m.getParameterCount()];
        for (int i = 0; i < all.length; i++) {
            boolean flag = m.getParameterTypes()[i] == boolean.class;
            all[i] = flag ? (Object) random.nextBoolean() : (Object) number(m.getName(), i);
        }
        return all;
    }

    private int number(String name, int i) {
        if (random.nextInt(60) == 0) {
            int[] edges = {Integer.MIN_VALUE, Integer.MAX_VALUE, -1, -2, 60, 61, 8, 9, 10, 16, 32, 65536, 65537};
            return edges[random.nextInt(edges.length)];
        }
        if (name.startsWith("drawn") && i == (name.equals("drawnFed") ? 0 : 1)) {
            return random.nextInt(65539) - 1;
        }
        boolean years = i == 1 && name.equals("handleIn") || name.startsWith("meet") || name.equals("fedIn")
            || name.startsWith("drawn");
        if (years && !(name.equals("drawnHandle") && i == 0)) {
            return random.nextInt(3) > 0 ? random.nextInt(10) : random.nextInt(63) - 1;
        }
        switch (name) {
            case "feed": return 0x61206220 + random.nextInt(64);
            case "size": return random.nextInt(15) - 1;
            case "pair": return i == 0 ? random.nextInt(9) : random.nextInt(10) - 1;
            case "sit": return i == 0 ? random.nextInt(5) : random.nextInt(12) - 1;
            case "odds":
            case "mean": return i == 0 ? random.nextInt(6) : random.nextInt(11) - 1;
            case "saw":
            case "rests":
            case "rest": return random.nextInt(12) - 1;
            default: return random.nextInt(6) - (random.nextInt(20) == 0 ? 1 : 0);
        }
    }

    private void lay(String text) throws Exception {
        Check.due("tape", x.size(12), model.size(12));
        if (x.size(12) > 0) {
            table(random.nextInt(x.size(12)) + (random.nextInt(9) == 0 ? 800 : 0));
        }
        int before = x.size(12);
        byte[] bytes = text.getBytes(java.nio.charset.StandardCharsets.ISO_8859_1);
        Method feed = SpoonTable.class.getMethod("feed", int.class, int.class, int.class, int.class, int.class);
        for (int at = 0; at < bytes.length; at += 20) {
            Object[] with = new Object[5];
            for (int i = 0; i < 5; i++) {
                int number = 0;
                for (int b = 0; b < 4; b++) {
                    int place = at + 4 * i + b;
                    number = number << 8 | (place < bytes.length ? bytes[place] & 255 : 32);
                }
                with[i] = number;
            }
            both(feed, with);
        }
        log.add("text " + text);
        table(before > 0 ? x.size(12) : Math.min(bytes.length, 800));
    }

    private void table(int n) throws Exception {
        both(SpoonTable.class.getMethod("table", int.class), new Object[] {n});
    }

    // ---- texts

    private String text(boolean faulty) {
        int seats = 2 + random.nextInt(9);
        int people = 1 + random.nextInt(Math.min(5, seats));
        if (seats >= 5 && random.nextInt(2) == 0) {
            people = 4 + random.nextInt(2);
        }
        List<String> lines = new ArrayList<>();
        lines.add("table seats " + seats + " slack " + random.nextInt(4) * random.nextInt(2)
            + " saw " + (1 + random.nextInt(random.nextBoolean() ? 3 : 9))
            + " quarrel " + (random.nextInt(4) == 0 ? random.nextInt(2) * 100 : random.nextInt(101)));
        List<Integer> free = new ArrayList<>();
        for (int s = 0; s < seats; s++) {
            free.add(s);
        }
        List<String> told = new ArrayList<>();
        for (int p = 0; p < people; p++) {
            told.add(NAMES[p]);
            lines.add("person " + NAMES[p] + " at " + free.remove(random.nextInt(free.size())));
        }
        List<String> twos = new ArrayList<>();
        addKnown(lines, told, twos);
        List<String> unsure = new ArrayList<>(twos);
        for (int i = random.nextInt(5); i > 0 && !unsure.isEmpty(); i--) {
            lines.add("unsure " + unsure.remove(random.nextInt(unsure.size())) + " " + years());
        }
        List<String> tried = new ArrayList<>(twos);
        for (int i = random.nextInt(5); i > 0 && !tried.isEmpty(); i--) {
            lines.add("tried " + tried.remove(random.nextInt(tried.size()))
                + (random.nextInt(3) == 0 ? " fed" : " starved"));
        }
        for (int s = 0, forks = 0; s < seats && forks < 4; s++) {
            if (random.nextInt(4) == 0) {
                forks++;
                lines.add(1 + random.nextInt(lines.size()), "fork " + s);
            }
        }
        String text = String.join(random.nextBoolean() ? ";" : " ; ", lines);
        return faulty ? spoiled(text) : text;
    }

    private int years() {
        return random.nextInt(8) == 0 ? random.nextInt(100) : random.nextInt(10);
    }

    private void addKnown(List<String> lines, List<String> told, List<String> twos) {
        int dense = 1 + random.nextInt(4);
        for (int p = 0; p < told.size(); p++) {
            for (int q = 0; q < p; q++) {
                if (random.nextInt(4) < dense) {
                    boolean turned = random.nextBoolean();
                    String two = turned ? told.get(p) + " " + told.get(q) : told.get(q) + " " + told.get(p);
                    int at = lines.size();
                    lines.add(at, "known " + two + " years " + years() + " " + KINDS[random.nextInt(5) % 3]);
                    twos.add(random.nextBoolean() ? two : two.split(" ")[1] + " " + two.split(" ")[0]);
                }
            }
        }
    }

    private String spoiled(String text) {
        List<String> parts = new ArrayList<>(List.of(text.split("(?<=[ ;])|(?=[ ;])")));
        for (int i = 1 + random.nextInt(2); i > 0; i--) {
            int at = random.nextInt(parts.size());
            String other = parts.get(random.nextInt(parts.size()));
            switch (random.nextInt(6)) {
                case 0: parts.remove(at); break;
                case 1: parts.set(at, other); break;
                case 2: parts.add(at, other); break;
                case 3: parts.set(at, String.valueOf(random.nextInt(1200))); break;
                case 4: parts.add(at, String.valueOf((char) random.nextInt(256))); break;
                default: parts.add(";" + spoilers()); break;
            }
            if (parts.isEmpty()) {
                parts.add(" ");
            }
        }
        String spoilt = String.join("", parts);
        return random.nextInt(6) == 0 ? spoilt.substring(0, random.nextInt(spoilt.length() + 1)) : spoilt;
    }

    private String spoilers() {
        String[] all = {"person fork at 1", "person ada at 3", "known ada b years 1 plain", "known ada x", "tried b b fed",
            "unsure ada b 4", "table seats 2 slack 0 saw 1 quarrel 0", "fork 1", "fork 0", "person zzz at 0", "tried ada b fed"};
        return all[random.nextInt(all.length)];
    }
}
