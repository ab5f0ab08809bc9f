import java.nio.charset.StandardCharsets;
import java.util.NoSuchElementException;

/** What the tests share: laying a table by its text, and counting the answers that are not as due. */
final class Check {
    private static int wrong = 0;
    private static int asked = 0;

    private Check() {
    }

    static void due(String call, long got, long want) {
        asked++;
        if (got != want) {
            wrong++;
            System.out.println(call + " answered " + got + ", due is " + want);
        }
    }

    static void due(String call, boolean got, boolean want) {
        due(call, got ? 1 : 0, want ? 1 : 0);
    }

    /** A call that is refused answers so, and trouble() tells why. */
    static void refused(SpoonTable x, String call, long got, long trouble) {
        due(call, got, SpoonTable.NONE);
        due("trouble() behind " + call, x.trouble(), trouble);
    }

    /** The number of the person, or -1 where led throws. */
    static int led(SpoonTable x, int i) {
        try {
            return x.led(i);
        } catch (NoSuchElementException e) {
            return -1;
        }
    }

    static void feed(SpoonTable x, String text) {
        byte[] bytes = text.getBytes(StandardCharsets.ISO_8859_1);
        for (int from = 0; from < bytes.length; from += 20) {
            int[] numbers = new int[5];
            for (int i = 0; i < 20; i++) {
                int b = from + i < bytes.length ? bytes[from + i] & 255 : 32;
                numbers[i / 4] = numbers[i / 4] << 8 | b;
            }
            x.feed(numbers[0], numbers[1], numbers[2], numbers[3], numbers[4]);
        }
    }

    /** Feeds the text and makes it the table: what table() answers. */
    static int lay(SpoonTable x, String text) {
        feed(x, text);
        return x.table(text.length());
    }

    static SpoonTable laid(String text) {
        SpoonTable x = new SpoonTable();
        if (lay(x, text) < 0) {
            throw new IllegalArgumentException("fault " + x.fault() + " at " + x.where() + ": " + text);
        }
        return x;
    }

    static void end() {
        System.out.println(asked + " answers looked at, " + wrong + " wrong");
        if (wrong != 0 || asked == 0) {
            System.exit(1);
        }
    }
}
