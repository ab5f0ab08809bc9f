import java.nio.file.Files;
import java.nio.file.Path;
import java.util.List;
import java.util.regex.Matcher;
import java.util.regex.Pattern;

/** Rules of ../shared/LANGUAGE.md that can be seen in the text of the class alone. */
public final class LanguageTest {
    private static final int LONGEST_METHOD = 60;

    public static void main(String[] args) throws Exception {
        String source = Files.readString(Path.of("src/main/java/SpoonTable.java"));
        String code = source.replaceAll("(?s)/\\*.*?\\*/", "").replaceAll("//[^\n]*", "");
        for (String word : List.of("->", "::", "catch", "try ", "finally", "synchronized", "assert", "double", "float",
            "System.out", "Exact", "package ", "static {", "String", "for (;", "while (true", "instanceof", "hashCode", "java.lang")) {
            Check.due("'" + word + "' is not used", code.contains(word), false);
        }
        Check.due("imports", count(code, "import "), 1);
        Check.due("throws by a statement", count(code, "throw new NoSuchElementException\\(\\)"), 1);
        Check.due("throw statements", count(code, "throw "), 1);
        Check.due("statics are final", count(code, "static (?!final)(?!\\w+(\\[\\])? \\w+\\()"), 0);
        methods(code.split("\n"));
        Check.end();
    }

    private static int count(String text, String pattern) {
        Matcher m = Pattern.compile(pattern).matcher(text);
        int n = 0;
        while (m.find()) {
            n++;
        }
        return n;
    }

    private static void methods(String[] lines) {
        Pattern head = Pattern.compile("^( {4}| {8})(?! )[\\w\\[\\] ]+ \\w+\\((.*)\\).*\\{$");
        for (int i = 0; i < lines.length; i++) {
            Matcher m = head.matcher(lines[i]);
            if (m.matches()) {
                int end = i;
                while (!lines[end].equals(m.group(1) + "}")) {
                    end++;
                }
                Check.due("length of " + lines[i].trim(), end - i < LONGEST_METHOD, true);
                Check.due("parameters of " + lines[i].trim(), m.group(2).split(",").length <= 7, true);
            }
        }
    }
}
