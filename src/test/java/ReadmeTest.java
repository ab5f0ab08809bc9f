import java.lang.reflect.Method;
import java.lang.reflect.Modifier;
import java.nio.charset.StandardCharsets;
import java.nio.file.Files;
import java.nio.file.Path;
import java.util.ArrayList;
import java.util.List;
import java.util.regex.Matcher;
import java.util.regex.Pattern;

/** What README.md says of the class and of its tests is so: its program, its commands, its names. */
public final class ReadmeTest {
    private static final String PROGRAM = "Supper";

    public static void main(String[] args) throws Exception {
        String page = Files.readString(Path.of("README.md"));
        calls(page);
        names(page);
        Check.due(".ci/run can be run", Files.isExecutable(Path.of(".ci/run")), true);
        Path place = Files.createTempDirectory("readme");
        try {
            commands(page, place);
        } finally {
            run("rm -rf " + place);
        }
        Check.end();
    }

    private static void calls(String page) {
        for (Method m : SpoonTable.class.getDeclaredMethods()) {
            if (Modifier.isPublic(m.getModifiers())) {
                Check.due("the page names " + m.getName(), page.contains("`" + m.getName() + "`"), true);
            }
        }
    }

    /** Every class and every file that the page names is there. */
    private static void names(String page) throws Exception {
        String source = Files.readString(Path.of("src/main/java/SpoonTable.java"));
        for (String name : found(page, "`([A-Z][a-z]\\w+)`")) {
            boolean there = source.contains("class " + name + " ") || Files.exists(Path.of("src/test/java/" + name + ".java"))
                || name.equals("NoSuchElementException") || name.equals("Test");
            Check.due("there is " + name, there, true);
        }
        for (String file : found(page, "`((?:\\.\\./)?\\w+/[\\w/.]*)`")) {
            Check.due("there is " + file, Files.exists(Path.of(file)), true);
        }
    }

    private static void commands(String page, Path place) throws Exception {
        String program = found(page, "(?s)```java\n(.*?)\n```").get(0);
        Path file = place.resolve(PROGRAM + ".java");
        Files.writeString(file, program);
        int ran = 0;
        for (String command : found(page, "(?m)^    (javac? .*)$")) {
            String here = command.replace(PROGRAM + ".java", file.toString()).replaceAll("\\bout\\b", place + "/out");
            String[] answer = run(here);
            Check.due(command + " ends with 0", Integer.parseInt(answer[0]), 0);
            if (command.endsWith(" " + PROGRAM)) {
                String due = found(page, "(?s)It prints:\n\n```text\n(.*?)\n```").get(0);
                Check.due(command + " printed " + answer[1], answer[1].strip().equals(due), true);
            }
            ran++;
        }
        Check.due("commands", ran, 4);
    }

    /** {exit code, what it printed}. */
    private static String[] run(String command) throws Exception {
        Process p = new ProcessBuilder("sh", "-c", command).redirectErrorStream(true).start();
        String printed = new String(p.getInputStream().readAllBytes(), StandardCharsets.UTF_8);
        return new String[] {String.valueOf(p.waitFor()), printed};
    }

    private static List<String> found(String page, String pattern) {
        List<String> all = new ArrayList<>();
        Matcher m = Pattern.compile(pattern).matcher(page);
        while (m.find()) {
            all.add(m.group(1));
        }
        return all;
    }
}
