/** Promises 58 to 60: led, size, trouble. */
public final class ToldTest {
    private static final String TEXT = "table seats 7 slack 1 saw 2 quarrel 30;person a at 0;person b at 3;person c at 5;person d at 6;"
        + "fork 1;fork 2;known a b years 2 plain;known b c years 7 plain;known a c years 9 plain;unsure a b 1;tried a c fed;tried a b starved";

    public static void main(String[] args) {
        led();
        sizes();
        troubles();
        Check.end();
    }

    private static void led() {
        SpoonTable x = new SpoonTable();
        Check.due("led(0) without a table", Check.led(x, 0), -1);
        x = Check.laid(TEXT);
        Check.due("led(0)", Check.led(x, 0), 2);
        Check.due("led(1)", Check.led(x, 1), 3);
        Check.due("led(2)", Check.led(x, 2), -1);
        Check.due("led(-1)", Check.led(x, -1), -1);
        x.sit(1, 1);
        // a b: 1 apart, 2 years; nothing else.
        Check.due("led(0)", Check.led(x, 0), 2);
        x.sit(1, 4);
        Check.due("led(0): all", Check.led(x, 0), 0);
        Check.due("led(3)", Check.led(x, 3), 3);
        Check.due("led(4)", Check.led(x, 4), -1);
        // Somebody could feed c, though nobody does by the best match.
        x = Check.laid("table seats 3 slack 0 saw 1 quarrel 0;person a at 1;person b at 0;person c at 2;known a b years 1 plain;known a c years 1 plain");
        Check.due("starving", x.starving(), 4);
        Check.due("led(0)", Check.led(x, 0), -1);
    }

    private static void sizes() {
        SpoonTable x = Check.laid(TEXT);
        int[] due = {7, 1, 2, 30, 4, 2, 3, 1, 2, 0, 0, 0, 0};
        for (int what = 0; what < due.length; what++) {
            Check.due("size(" + what + ")", x.size(what), due[what]);
        }
        Check.due("size(-1)", x.size(-1), -1);
        Check.due("size(13)", x.size(13), -1);
        x.year();
        x.know(0, 3);
        x.image();
        x.image();
        x.feed(0, 0, 0, 0, 0);
        Check.due("pairs", x.size(6), 4);
        Check.due("gone", x.size(9), 1);
        Check.due("acts", x.size(10), 2);
        Check.due("images", x.size(11), 2);
        Check.due("tape", x.size(12), 20);
        Check.due("size(13)", new SpoonTable().size(13), -1);
    }

    /** Calls that tell no number leave the trouble as it was; all others set it. */
    private static void troubles() {
        SpoonTable x = Check.laid(TEXT);
        Check.due("at first", x.trouble(), 0);
        x.seat(9);
        x.feed(0, 0, 0, 0, 0);
        x.fault();
        x.where();
        x.size(99);
        Check.led(x, 99);
        Check.due("told twice", x.trouble(), 1);
        Check.due("told twice", x.trouble(), 1);
        x.seat(0);
        Check.due("not refused", x.trouble(), 0);
        Check.refused(x, "table(20)", x.table(20), 4);
        Check.due("where", x.where(), 0);
        x.feed(0, 0, 0, 0, 0);
        Check.led(x, 0);
        Check.due("where still", x.where(), 0);
        x.fed();
        Check.due("where no more", x.where(), -1);
        Check.due("not refused", x.trouble(), 0);
        Check.due("fault still", x.fault(), 1);
    }
}
