/** Promises 1 to 5: the tape, the text of a table, and its faults. */
public final class TextTest {
    private static final String HEAD = "table seats 6 slack 1 saw 2 quarrel 5";
    private static final String AB = HEAD + ";person a at 0;person b at 1;known a b years 5 plain";

    public static void main(String[] args) {
        newObject();
        tape();
        tokens();
        form();
        names();
        bounds();
        many();
        lacks();
        whatStays();
        Check.end();
    }

    private static void fault(String text, int number, int place) {
        SpoonTable x = new SpoonTable();
        Check.due("fault before any table", x.fault(), 0);
        Check.due("table of " + text, Check.lay(x, text), -1);
        Check.due("trouble: " + text, x.trouble(), 4);
        Check.due("fault: " + text, x.fault(), number);
        Check.due("where: " + text, x.where(), place);
    }

    private static void fine(String text, int people) {
        SpoonTable x = new SpoonTable();
        Check.due("table of " + text, Check.lay(x, text), people);
        Check.due("trouble: " + text, x.trouble(), 0);
        Check.due("fault: " + text, x.fault(), 0);
        Check.due("where: " + text, x.where(), -1);
    }

    private static void newObject() {
        SpoonTable x = new SpoonTable();
        for (int what = 0; what <= 12; what++) {
            Check.due("new size " + what, x.size(what), 0);
        }
        Check.due("new trouble", x.trouble(), 0);
        Check.due("new fault", x.fault(), 0);
        Check.due("new where", x.where(), -1);
        Check.refused(x, "new seat(0)", x.seat(0), 1);
    }

    private static void tape() {
        SpoonTable x = new SpoonTable();
        for (int i = 1; i <= 40; i++) {
            Check.due("feed " + i, x.feed(0x20202020, 0x20202020, 0x20202020, 0x20202020, 0x20202020), 20 * i);
        }
        Check.refused(x, "table(801)", x.table(801), 2);
        Check.due("feed on a full tape", x.feed(1, 2, 3, 4, 5), -1);
        Check.due("feed tells no trouble", x.trouble(), 2);
        Check.due("size of a full tape", x.size(12), 800);
        Check.refused(x, "table(-1)", x.table(-1), 2);
        Check.refused(x, "table(800) of blanks", x.table(800), 4);
        Check.due("fault of blanks", x.fault(), 1);
        Check.due("where of blanks", x.where(), 800);
        Check.due("size of the tape behind table", x.size(12), 0);
        Check.refused(x, "table(1)", x.table(1), 2);
        Check.due("fault stays by 2", x.fault(), 1);
        Check.due("where is gone by 2", x.where(), -1);
        Check.due("highest byte first", x.feed(0x7461626c, 0x65202020, 0x58202020, 0, 0), 20);
        Check.refused(x, "table(9)", x.table(9), 4);
        Check.due("where", x.where(), 8);
        Check.due("what is behind n goes, too", x.size(12), 0);
    }

    private static void tokens() {
        fine(AB, 2);
        fine("  " + AB + "  ", 2);
        fine("table seats6slack1saw2quarrel5;person a at0", 1);
        fine(HEAD + " ; person abcdefgh at 000 ; person abcdefg at 005", 2);
        fine(HEAD + ";person seats at 0;person at at 1;person years at 2;known at years years 3 ringed;tried years at fed", 3);
        fault(HEAD + ";person abcdefghi at 0", 1, 45);
        fault(HEAD + ";person a at 0001", 1, 50);
        fault(HEAD + ";person A at 0", 1, 45);
        fault(HEAD + ";person a at 0\u0000", 1, 51);
        fault(HEAD + ";person a\u00e9 at 0", 1, 46);
        fault(HEAD + ";person a at 0\n", 1, 51);
        fault("table seats 11X", 4, 12);
    }

    private static void form() {
        fault("", 1, 0);
        fault("   ", 1, 3);
        fault(";", 1, 0);
        fault("tables", 1, 0);
        fault("5", 1, 0);
        fault("table", 1, 5);
        fault("table seats", 1, 11);
        fault("table seats 6 ", 1, 14);
        fault("table slack 6", 1, 6);
        fault("table seats six", 1, 12);
        fault("table seats 6 slack 1 saw 2 quarrel", 1, 35);
        fault(HEAD + ";", 1, 38);
        fault(HEAD + ";;", 1, 38);
        fault(HEAD + " person", 1, 38);
        fault(HEAD + ";person a", 1, 46);
        fault(HEAD + ";person a on 0", 1, 47);
        fault(HEAD + ";person a at b", 1, 50);
        fault(HEAD + ";person 5", 1, 45);
        fault(HEAD + ";fork a", 1, 43);
        for (String word : new String[] {"table", "person", "fork", "known", "unsure", "tried"}) {
            fault(HEAD + ";person " + word, 1, 45);
            fault(AB + ";known " + word, 1, AB.length() + 7);
            fault(AB + ";unsure a " + word, 1, AB.length() + 10);
        }
        fault(AB + ";known 5", 1, AB.length() + 7);
        fault(AB + ";person c at 2;known a c year 5", 1, AB.length() + 25);
        fault(AB + ";person c at 2;known a c years 5 fed", 1, AB.length() + 33);
        fault(AB + ";person c at 2;known a c years 5", 1, AB.length() + 32);
        fault(AB + ";unsure a b plain", 1, AB.length() + 12);
        fault(AB + ";tried a b", 1, AB.length() + 10);
        fault(AB + ";tried a b 5", 1, AB.length() + 11);
    }

    private static void names() {
        int n = AB.length();
        fault(AB + ";known a x", 2, n + 9);
        fault(AB + ";known x a", 2, n + 7);
        fault(AB + ";unsure x b 1", 2, n + 8);
        fault(AB + ";unsure a x 1", 2, n + 10);
        fault(AB + ";unsure a a 1", 2, n + 10);
        fault(AB + ";tried x b fed", 2, n + 7);
        fault(AB + ";tried b b fed", 2, n + 9);
        fault(AB + ";person c at 2;tried a c fed", 2, n + 23);
        fault(AB + ";person b at 2", 3, n + 8);
        fault(AB + ";person c at 0", 3, n + 13);
        fault(AB + ";known a a years 5 plain", 3, n + 9);
        fault(AB + ";known b a years 5 plain", 3, n + 9);
        fault(AB + ";unsure a b 1;unsure b a 2", 3, n + 23);
        fault(AB + ";tried a b fed;tried b a starved", 3, n + 23);
        fault(AB + ";fork 3;fork 3", 3, n + 13);
        fault(AB + ";table seats 2", 3, n + 1);
        fine(AB + ";fork 0;fork 1;person c at 2;fork 2;fork 3;known b c years 99 hinged;unsure a b 0;tried a b fed", 3);
    }

    private static void bounds() {
        fault("table seats 1", 4, 12);
        fault("table seats 2 slack 4", 4, 20);
        fault("table seats 2 slack 3 saw 0", 4, 26);
        fault("table seats 2 slack 3 saw 10", 4, 26);
        fault("table seats 2 slack 3 saw 9 quarrel 101", 4, 36);
        fine("table seats 2 slack 3 saw 9 quarrel 100;person a at 1", 1);
        fine("table seats 10 slack 0 saw 1 quarrel 0;person a at 9", 1);
        fault("table seats 2 slack 3 saw 9 quarrel 100;person a at 2", 4, 52);
        fault(HEAD + ";fork 6", 4, 43);
        fault(AB + ";unsure b a 100", 4, AB.length() + 12);
        fault(AB + ";person c at 2;known c a years 100", 4, AB.length() + 31);
    }

    private static String five() {
        return "table seats 10 slack 0 saw 1 quarrel 0;person a at 0;person b at 1;person c at 2;person d at 3;person e at 4";
    }

    private static String knownAll() {
        StringBuilder all = new StringBuilder(five());
        for (char p = 'a'; p <= 'e'; p++) {
            for (char q = 'a'; q < p; q++) {
                all.append(";known ").append(p).append(' ').append(q).append(" years 1 plain");
            }
        }
        return all.toString();
    }

    private static void many() {
        String text = five();
        fine(text, 5);
        fault(text + ";person a", 5, text.length() + 1);
        text = five() + ";fork 9;fork 1;fork 2;fork 3";
        fine(text, 5);
        fault(text + ";fork 3", 5, text.length() + 1);
        text = knownAll();
        fine(text, 5);
        fault(text + ";known a", 5, text.length() + 1);
        text = knownAll() + ";unsure a b 1;unsure a c 1;unsure a d 1;unsure e a 1";
        fine(text, 5);
        fault(text + ";unsure", 5, text.length() + 1);
        text = knownAll() + ";tried a b fed;tried a c fed;tried a d fed;tried e a fed;tried e b fed;tried e c starved";
        fine(text, 5);
        fault(text + ";tried e d fed", 5, text.length() + 1);
    }

    private static void lacks() {
        fault("person", 6, 0);
        fault("  fork 1;" + AB, 6, 2);
        fault("known", 6, 0);
        fault("unsure a", 6, 0);
        fault("tried a", 6, 0);
        fault(HEAD, 6, 37);
        fault(HEAD + "   ", 6, 40);
        fault(HEAD + ";fork 5", 6, 44);
        fault(HEAD + ";fork", 1, 42);
    }

    private static void whatStays() {
        SpoonTable x = Check.laid(AB);
        x.year();
        x.image();
        Check.due("a faulty table", Check.lay(x, HEAD), -1);
        Check.due("the table stays", x.size(4), 2);
        Check.due("its years stay", x.pair(0, 2), 6);
        Check.due("its acts stay", x.size(10), 1);
        Check.due("its images stay", x.size(11), 1);
        Check.due("fault stays", x.fault(), 6);
        Check.due("where is gone behind another call", x.where(), -1);
        Check.due("a new table", Check.lay(x, HEAD + ";person z at 3"), 1);
        Check.due("fault is gone", x.fault(), 0);
        for (int what = 5; what <= 12; what++) {
            Check.due("size " + what + " of a new table", x.size(what), 0);
        }
        Check.due("seat of z", x.seat(0), 3);
    }
}
