import java.lang.reflect.Constructor;
import java.lang.reflect.Field;
import java.lang.reflect.Member;
import java.lang.reflect.Method;
import java.lang.reflect.Modifier;
import java.util.Arrays;
import java.util.Set;
import java.util.TreeSet;

/** The public face is the document's, and nothing else can be seen from outside. */
public final class FaceTest {
    private static final String FACE = """
        int feed(int,int,int,int,int)
        int table(int)
        int fault()
        int where()
        int seat(int)
        int pair(int,int)
        int pairOf(int,int)
        int feeders(int)
        int forks(int,int)
        int fed()
        int match()
        int slops()
        int mate(int)
        int starving()
        int matches()
        int handleIn(int,int)
        int feedsIn(int)
        int feedsOften(int)
        int fedIn(int)
        int bestYear()
        int allIn()
        int seating()
        int seatAt(int)
        int seatSlops()
        int swapped(int,int)
        int bestSwap()
        int better(int)
        int forkAt()
        int saws()
        int sawsOf(int)
        int meet(int)
        int meetAt(int)
        int stable()
        int stableAt(int)
        int leaves()
        int fits()
        int fitAt(int)
        int could()
        int surely()
        int ask()
        int askLeaves()
        int judge()
        int saw(int,boolean,boolean,boolean)
        int rests(int)
        int rest(int)
        long odds(int,int,boolean)
        long mean(int,int,boolean)
        int drawnHandle(int,int,int)
        int drawnFed(int,int)
        int year()
        int quarrel(int)
        int sit(int,int)
        int know(int,int)
        boolean undo()
        int image()
        boolean back(int)
        int led(int)
        int size(int)
        int trouble()
        """;

    public static void main(String[] args) {
        Check.due("public and final", SpoonTable.class.getModifiers(), Modifier.PUBLIC | Modifier.FINAL);
        Check.due("NONE", SpoonTable.NONE, -1);
        methods();
        others();
        Check.end();
    }

    private static void methods() {
        Set<String> due = new TreeSet<>(Arrays.asList(FACE.trim().split("\n")));
        Set<String> seen = new TreeSet<>();
        Set<String> hidden = new TreeSet<>();
        for (Class<?> inside : SpoonTable.class.getDeclaredClasses()) {
            for (Method m : inside.getDeclaredMethods()) {
                hidden.add(m.getName());
            }
        }
        for (Method m : SpoonTable.class.getDeclaredMethods()) {
            if (isHidden(m)) {
                hidden.add(m.getName());
            } else {
                Check.due(m.getName() + " is public and no more", m.getModifiers(), Modifier.PUBLIC);
                String types = Arrays.toString(m.getParameterTypes()).replaceAll("[\\[\\] ]", "");
                seen.add(m.getReturnType() + " " + m.getName() + "(" + types + ")");
                String thrown = Arrays.toString(m.getExceptionTypes());
                Check.due(m.getName() + " throws " + thrown, thrown.contains("NoSuchElement"), m.getName().equals("led"));
            }
        }
        for (String method : due) {
            Check.due("there is " + method, seen.contains(method), true);
        }
        for (String method : seen) {
            Check.due("the document has " + method, due.contains(method), true);
            String name = method.replaceAll("^\\w+ |\\(.*", "");
            Check.due("no other method is named " + name, hidden.contains(name), false);
        }
    }

    private static void others() {
        for (Field f : SpoonTable.class.getDeclaredFields()) {
            Check.due("seen field " + f.getName(), !isHidden(f), f.getName().equals("NONE"));
            if (Modifier.isStatic(f.getModifiers())) {
                Check.due(f.getName() + " is final", Modifier.isFinal(f.getModifiers()), true);
            }
        }
        Constructor<?>[] all = SpoonTable.class.getDeclaredConstructors();
        Check.due("constructors", all.length, 1);
        Check.due("constructor's parameters", all[0].getParameterCount(), 0);
        for (Class<?> inside : SpoonTable.class.getDeclaredClasses()) {
            Check.due(inside.getName() + " is static", Modifier.isStatic(inside.getModifiers()), true);
            int own = 0;
            for (Field f : inside.getDeclaredFields()) {
                own += Modifier.isStatic(f.getModifiers()) ? 0 : 1;
            }
            Check.due(inside.getName() + " has twenty fields at most", own <= 20, true);
        }
        Check.due("twelve classes at most", SpoonTable.class.getDeclaredClasses().length <= 11, true);
    }

    private static boolean isHidden(Member m) {
        return Modifier.isPrivate(m.getModifiers());
    }
}
