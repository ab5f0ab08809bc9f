/** Promises 44 to 46: saw or sit. */
public final class RestsTest {
    public static void main(String[] args) {
        SpoonTable x = new SpoonTable();
        Check.due("saw without a table", x.saw(0, false, false, false), -100);
        Check.due("trouble", x.trouble(), 1);
        Check.due("saw without a table, pride 10", x.saw(10, false, false, false), -100);
        Check.due("trouble", x.trouble(), 1);
        Check.refused(x, "rests", x.rests(10), 1);
        Check.refused(x, "rest", x.rest(0), 1);
        x = Check.laid("table seats 2 slack 0 saw 1 quarrel 0;person a at 0");
        for (int pride = 0; pride <= 9; pride++) {
            share(x, pride, true, true, -pride, -pride);
            share(x, pride, true, false, 0, 4);
            share(x, pride, false, true, 4, 0);
            share(x, pride, false, false, 2, 2);
            // Whatever the other does, sitting has more.
            Check.due("rests(" + pride + ")", x.rests(pride), 1);
            Check.due("rest(" + pride + ")", x.rest(pride), 0);
            Check.due("trouble", x.trouble(), 0);
        }
        for (int pride : new int[] {-1, 10, Integer.MIN_VALUE, Integer.MAX_VALUE}) {
            Check.due("saw(" + pride + ")", x.saw(pride, true, false, true), -100);
            Check.due("trouble", x.trouble(), 2);
            Check.refused(x, "rests(" + pride + ")", x.rests(pride), 2);
            Check.refused(x, "rest(" + pride + ")", x.rest(pride), 2);
        }
        Check.end();
    }

    private static void share(SpoonTable x, int pride, boolean one, boolean other, int ofOne, int ofOther) {
        Check.due("the one's, pride " + pride, x.saw(pride, one, other, false), ofOne);
        Check.due("the other's, pride " + pride, x.saw(pride, one, other, true), ofOther);
        Check.due("trouble", x.trouble(), 0);
    }
}
