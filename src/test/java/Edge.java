import java.io.IOException;
import java.nio.file.Files;
import java.nio.file.Path;
import java.util.LinkedHashMap;
import java.util.List;
import java.util.Map;
import java.util.function.Supplier;
import java.util.function.ToLongFunction;

/**
 * Sentences of ../shared/DOC.md that name an edge. A test quotes one, which must stand in the document
 * so, word by word; what is looked at next is told by its name. At the end no word of the parts that a
 * test answers for may be without a quote, and no quote without an answer looked at.
 */
final class Edge {
    interface Numbered {
        long of(SpoonTable x, int n);
    }

    private static final Map<String, String> PARTS = parts();
    private static final Map<String, boolean[]> QUOTED = new LinkedHashMap<>();
    private static String name = "";
    private static int looked = 1;

    private Edge() {
    }

    // ---- the document

    private static Map<String, String> parts() {
        String all;
        try {
            all = Files.readString(Path.of("../shared/DOC.md")).replace("```text", "").replace("```", "");
        } catch (IOException e) {
            throw new IllegalStateException(e);
        }
        Map<String, String> parts = new LinkedHashMap<>();
        parts.put("limit", between(all, "An object is used", "## The public face"));
        parts.put("terms I", between(all, "I. THE TEXT", "II. PAIRS"));
        parts.put("terms II", between(all, "II. PAIRS", "III. Behind"));
        parts.put("terms III", between(all, "III. Behind", "IV. TROUBLE"));
        parts.put("terms IV", between(all, "IV. TROUBLE", "Ahead of the calls `feed`"));
        for (int n = 1; n <= 60; n++) {
            String end = n < 60 ? "## Promise " + (n + 1) + ":" : "## Not promised";
            String promise = between(all, "## Promise " + n + ":", end);
            parts.put("promise " + n, promise.substring(promise.indexOf("`: ") + 3));
        }
        return parts;
    }

    private static String between(String all, String from, String to) {
        int start = all.indexOf(from);
        int end = all.indexOf(to, start);
        if (start < 0 || end < 0) {
            throw new IllegalStateException("the document has no part from " + from + " to " + to);
        }
        return all.substring(start, end);
    }

    static void promise(int number, String words) {
        quote("promise " + number, words);
    }

    static void terms(String part, String words) {
        quote("terms " + part, words);
    }

    static void quote(String part, String words) {
        Check.due(name + ": answers looked at", looked > 0, true);
        name = part + ", \"" + words + "\"";
        looked = 0;
        String text = PARTS.get(part);
        boolean[] marks = QUOTED.computeIfAbsent(part, p -> new boolean[text.length()]);
        int at = text.indexOf(words);
        Check.due(name + " stands in the document", at >= 0, true);
        // Words that stand there twice are quoted twice.
        while (at >= 0 && marks[at] && text.indexOf(words, at + 1) >= 0) {
            at = text.indexOf(words, at + 1);
        }
        for (int i = 0; at >= 0 && i < words.length(); i++) {
            marks[at + i] = true;
        }
    }

    static void end(int first, int last) {
        for (int n = first; n <= last; n++) {
            whole("promise " + n);
        }
        Check.due(name + ": answers looked at", looked > 0, true);
        Check.end();
    }

    static void whole(String part) {
        String text = PARTS.get(part);
        boolean[] marks = QUOTED.getOrDefault(part, new boolean[text.length()]);
        StringBuilder left = new StringBuilder();
        for (int i = 0; i < text.length(); i++) {
            if (!marks[i] && !Character.isWhitespace(text.charAt(i))) {
                left.append(text.charAt(i));
            }
        }
        Check.due(part + " is quoted whole; left: " + left, left.length(), 0);
    }

    // ---- answers

    static void due(String call, long got, long want) {
        looked++;
        Check.due(name + ": " + call, got, want);
    }

    static void due(String call, boolean got, boolean want) {
        due(call, got ? 1 : 0, want ? 1 : 0);
    }

    /** A call that is not refused: it answers so, its TROUBLE is 0, and nothing else is changed. */
    static void answers(String call, Supplier<SpoonTable> made, ToLongFunction<SpoonTable> asked, long want) {
        acts(call, made, asked, want);
        stays(call, made, asked);
    }

    /** A call that is not refused, and may change what it likes: the object behind it. */
    static SpoonTable acts(String call, Supplier<SpoonTable> made, ToLongFunction<SpoonTable> asked, long want) {
        SpoonTable x = made.get();
        if (x.trouble() == 0) {
            x.seat(-1);
        }
        due(call, asked.applyAsLong(x), want);
        due("trouble() behind " + call, x.trouble(), 0);
        due("where() behind " + call, x.where(), -1);
        return x;
    }

    /** A call that is refused: it answers so, its TROUBLE is as told, and nothing else is changed. */
    static void refused(String call, Supplier<SpoonTable> made, ToLongFunction<SpoonTable> asked, long answer, int why) {
        SpoonTable x = made.get();
        if (x.trouble() == why) {
            other(x, why);
        }
        due(call, asked.applyAsLong(x), answer);
        due("trouble() behind " + call, x.trouble(), why);
        due("where() behind " + call, x.where(), -1);
        stays(call, made, asked);
    }

    private static void other(SpoonTable x, int why) {
        if (why == 2) {
            x.seat(-1);
        } else {
            x.table(-1);
        }
    }

    /** The numbers below and above those that are taken are refused, whatever else is asked. */
    static void outside(String call, Supplier<SpoonTable> made, int least, int most, Numbered asked, long answer, int why) {
        for (int n : new int[] {least - 1, most + 1, Integer.MIN_VALUE, Integer.MAX_VALUE}) {
            refused(call + " of " + n, made, x -> asked.of(x, n), answer, why);
        }
    }

    /** Without a TABLE a call is refused by 1, whether there is a tape and a FAULT or not. */
    static void noTable(String call, ToLongFunction<SpoonTable> asked, long answer) {
        refused(call + " without a TABLE", SpoonTable::new, asked, answer, 1);
        refused(call + " without a TABLE, with a tape", Tables::onlyTape, asked, answer, 1);
    }

    /** Two objects made alike, one of which was called: all that can be told of them is alike. */
    static void stays(String call, Supplier<SpoonTable> made, ToLongFunction<SpoonTable> asked) {
        for (int part = 0; part < Telling.PARTS; part++) {
            SpoonTable x = made.get();
            asked.applyAsLong(x);
            alike(call, Telling.of(x, part), Telling.of(made.get(), part));
        }
    }

    static void alike(String call, List<String> got, List<String> want) {
        String different = got.size() == want.size() ? "" : got.size() + " answers, not " + want.size();
        for (int i = 0; i < Math.min(got.size(), want.size()) && different.isEmpty(); i++) {
            if (!got.get(i).equals(want.get(i))) {
                different = got.get(i) + ", else " + want.get(i);
            }
        }
        due("nothing else is changed behind " + call + " " + different, different.isEmpty(), true);
    }
}
