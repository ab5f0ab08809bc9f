/** The text of a table (terms I) at its edges, and the limit of 512 calls. */
public final class EdgeTextTest {
    private static final String HEAD = "table seats 6 slack 1 saw 2 quarrel 5";
    private static final String ONE = HEAD + ";person a at 0";
    private static final String TWO = ONE + ";person b at 1";
    private static final String KNOWN = TWO + ";known a b years 5 plain";
    private static final String[] FIRST_WORDS = {"table", "person", "fork", "known", "unsure", "tried"};

    public static void main(String[] args) {
        limit();
        tape();
        blanks();
        words();
        wholes();
        marks();
        lines();
        tableLine();
        aheadOfAll();
        personLine();
        fivePeople();
        forkLine();
        fourForks();
        knownLine();
        knownYears();
        kinds();
        eachTwoKnownOnce();
        unsureLine();
        unsureYears();
        fourUnsure();
        triedLine();
        sixTried();
        names();
        namesOnce();
        leftmost();
        leastNumber();
        form();
        formAtTheEnd();
        untold();
        unknown();
        again();
        takenSeats();
        twosAgain();
        secondTable();
        outOfBounds();
        many();
        lacks();
        Edge.whole("limit");
        Edge.whole("terms I");
        Edge.end(1, 0);
    }

    // ---- what is due

    private static void fine(String text, int people) {
        SpoonTable x = new SpoonTable();
        x.table(0);
        Edge.due("table of " + text, Check.lay(x, text), people);
        Edge.due("trouble() of " + text, x.trouble(), 0);
        Edge.due("fault() of " + text, x.fault(), 0);
        Edge.due("where() of " + text, x.where(), -1);
    }

    private static void fault(String text, int number, int place) {
        SpoonTable x = new SpoonTable();
        Edge.due("table of " + text, Check.lay(x, text), -1);
        Edge.due("trouble() of " + text, x.trouble(), 4);
        Edge.due("fault() of " + text, x.fault(), number);
        Edge.due("where() of " + text, x.where(), place);
    }

    /** A FAULT at the last of the text's words. */
    private static void faultAtLast(String text, int number) {
        fault(text, number, text.lastIndexOf(' ') + 1);
    }

    private static String people(int count) {
        StringBuilder text = new StringBuilder("table seats 10 slack 0 saw 1 quarrel 0");
        for (int p = 0; p < count; p++) {
            text.append(";person ").append((char) ('a' + p)).append(" at ").append(9 - p);
        }
        return text.toString();
    }

    private static String twos(int count, String first, String behind) {
        StringBuilder text = new StringBuilder();
        int n = 0;
        for (char p = 'a'; p <= 'e'; p++) {
            for (char q = 'a'; q < p && n < count; q++) {
                text.append(";").append(first).append(" ").append(p).append(" ").append(q).append(behind);
                n++;
            }
        }
        return text.toString();
    }

    private static String allKnown() {
        return people(5) + twos(10, "known", " years 1 plain");
    }

    // ---- calls

    private static void limit() {
        Edge.quote("limit", "An object is used for at most 512 calls after it has been made; what later calls answer is free.");
        int told = (KNOWN.length() + 19) / 20 + 1;
        SpoonTable x = Check.laid(KNOWN);
        for (int call = told + 1; call < 512; call++) {
            Edge.due("year()", x.year() >= 0, true);
        }
        Edge.due("the 512th call", x.size(9), 511 - told);
        x = Check.laid(KNOWN);
        Tables.years(x, 510 - told);
        Edge.due("the 511th call", x.undo(), true);
        Edge.due("the 512th call", x.pair(0, 2), 5 + 510 - told - 1);
    }

    // ---- tokens

    private static void tape() {
        Edge.terms("I", "I. THE TEXT of a TABLE (THE TAPE has 800 bytes;");
        fine(ONE + " ".repeat(800 - ONE.length()), 1);
        fine(" ".repeat(800 - ONE.length()) + ONE, 1);
        fault(" ".repeat(800), 1, 800);
        fault(ONE + " ".repeat(799 - ONE.length()) + ";", 1, 800);
        fault(ONE + " ".repeat(799 - ONE.length()) + "x", 1, 799);
        SpoonTable x = new SpoonTable();
        Check.feed(x, ONE + " ".repeat(801 - ONE.length()));
        Edge.due("of 801 and more 800 come", x.size(12), 800);
        Edge.due("table(801)", x.table(801), -1);
        Edge.due("table(800)", x.table(800), 1);
    }

    private static void blanks() {
        Edge.terms("I", "blanks, 32, part TOKENS and mean nothing else;");
        fine("   " + ONE + "   ", 1);
        fine(ONE.replace(" ", "    ").replace(";", "  ;  "), 1);
        fine("table seats6slack1saw2quarrel5;person a at0", 1);
        fine("table seats 6slack 1saw 2quarrel 5;person a at 0", 1);
        fault(HEAD + ";persona at 0", 1, 38);
        fault(HEAD + ";per son a at 0", 1, 38);
        fault("table seats 1 0 slack", 4, 12);
        fault("table seats 6 0 slack", 1, 14);
        for (int other : new int[] {0, 9, 10, 13, 31, 33, 95, 160, 255}) {
            fault(ONE + (char) other, 1, ONE.length());
            fault((char) other + ONE, 1, 0);
            fault(HEAD + ";person" + (char) other + "a at 0", 1, 44);
        }
    }

    private static void words() {
        Edge.terms("I", "TOKENS: WORDS of 1 to 8 small letters that stand together,");
        fine(HEAD + ";person a at 0", 1);
        fine(HEAD + ";person abcdefgh at 0;person abcdefgi at 1;person abcdefg at 2;person bcdefgh at 3", 4);
        fault(HEAD + ";person abcdefghi at 0", 1, 45);
        fault(HEAD + ";person aaaaaaaaaaaaaaaaa at 0", 1, 45);
        for (int letter = 0; letter < 256; letter++) {
            String text = HEAD + ";person " + (char) letter + " at 0";
            if (letter >= 'a' && letter <= 'z') {
                fine(text, 1);
            } else {
                // A blank makes "at" the name, and the WHOLE behind it stands where "at" should.
                fault(text, 1, letter == ' ' ? HEAD.length() + 13 : 45);
            }
        }
    }

    private static void wholes() {
        Edge.terms("I", "WHOLES of 1 to 3 digits that do,");
        fine(HEAD + ";person a at 5", 1);
        fine(HEAD + ";person a at 05", 1);
        fine(HEAD + ";person a at 005", 1);
        fault(HEAD + ";person a at 0005", 1, 50);
        fault(HEAD + ";person a at 0000000000000000005", 1, 50);
        fault(HEAD + ";person a at 999", 4, 50);
        fault(HEAD + ";person a at 1000", 1, 50);
        fault(HEAD + ";person a at 4294967296", 1, 50);
        for (int digit = 0; digit < 256; digit++) {
            String text = HEAD + ";person a at " + (char) digit;
            if (digit >= '0' && digit <= '5') {
                fine(text, 1);
            } else {
                fault(text, digit >= '6' && digit <= '9' ? 4 : 1, digit == ' ' ? 51 : 50);
            }
        }
    }

    private static void marks() {
        Edge.terms("I", "single ones of ;):");
        fine(HEAD + ";person a at 0", 1);
        fine(HEAD + " ; person a at 0", 1);
        fault(HEAD + ";;person a at 0", 1, 38);
        fault(HEAD + ":person a at 0", 1, 37);
        fault(HEAD + "<person a at 0", 1, 37);
        fault(HEAD + " 0000 person a at 0", 1, 38);
        fault(HEAD + " abcdefghi person a at 0", 1, 38);
    }

    private static void lines() {
        Edge.terms("I", "LINE {; LINE}. LINE, one of:");
        fault("", 1, 0);
        fault(";" + ONE, 1, 0);
        fault(ONE + ";", 1, ONE.length() + 1);
        fault(ONE + " person b at 1", 1, ONE.length() + 1);
        fault(ONE + ";persons b at 1", 1, ONE.length() + 1);
        fault(ONE + ";5", 1, ONE.length() + 1);
        fault("tables seats 6", 1, 0);
        fine(ONE + ";fork 3;person b at 1;fork 2;known a b years 5 plain;person c at 2;tried a b fed;unsure a b 4;fork 5", 3);
    }

    // ---- lines

    private static void tableLine() {
        Edge.terms("I", "table seats WHOLE slack WHOLE saw WHOLE quarrel WHOLE (2 .. 10; 0 .. 3; 1 .. 9; 0 .. 100 in a hundred)");
        int[][] bounds = {{2, 10}, {0, 3}, {1, 9}, {0, 100}};
        String[] words = {"seats", "slack", "saw", "quarrel"};
        for (int i = 0; i < 4; i++) {
            for (int n = 0; n <= 110; n++) {
                StringBuilder text = new StringBuilder("table");
                int place = 0;
                for (int j = 0; j < 4; j++) {
                    text.append(" ").append(words[j]).append(" ");
                    place = i == j ? text.length() : place;
                    text.append(i == j ? n : bounds[j][0]);
                }
                text.append(";person a at 1");
                if (n >= bounds[i][0] && n <= bounds[i][1]) {
                    SpoonTable x = Check.laid(text.toString());
                    Edge.due("size of " + text, x.size(i), n);
                } else {
                    fault(text.toString(), 4, place);
                }
            }
        }
        fault("table slack 0 seats 2 saw 1 quarrel 0;person a at 0", 1, 6);
        fault("table seats 2 slack 0 saw 1;person a at 0", 1, 27);
        fault("table seats 2 slack 0 saw 1 quarrel 0 0;person a at 0", 1, 38);
    }

    private static void aheadOfAll() {
        Edge.terms("I", ", ahead of all others");
        fine(ONE, 1);
        fault("person a at 0;" + ONE, 6, 0);
        fault("fork 0;" + ONE, 6, 0);
    }

    private static void personLine() {
        Edge.terms("I", "person NAME at WHOLE (a SEAT, 0 .. seats less 1, at which nobody sits;");
        for (int seats = 2; seats <= 10; seats++) {
            String head = "table seats " + seats + " slack 0 saw 1 quarrel 0;";
            fine(head + "person a at 0;person b at " + (seats - 1), 2);
            faultAtLast(head + "person a at 0;person b at " + seats, 4);
            faultAtLast(head + "person a at 0;person b at 0", 3);
            faultAtLast(head + "person a at " + (seats - 1) + ";person b at " + (seats - 1), 3);
        }
        fine(HEAD + ";fork 3;person a at 3", 1);
    }

    private static void fivePeople() {
        Edge.terms("I", "up to 5)");
        for (int count = 1; count <= 5; count++) {
            fine(people(count), count);
        }
        fault(people(5) + ";person f at 0", 5, people(5).length() + 1);
        fine("table seats 5 slack 0 saw 1 quarrel 0;person a at 0;person b at 1;person c at 2;person d at 3;person e at 4", 5);
    }

    private static void forkLine() {
        Edge.terms("I", "fork WHOLE (a SEAT; each once;");
        for (int seats = 2; seats <= 10; seats++) {
            String head = "table seats " + seats + " slack 0 saw 1 quarrel 0;person a at 0;";
            fine(head + "fork 0;fork " + (seats - 1), 1);
            faultAtLast(head + "fork " + seats, 4);
            faultAtLast(head + "fork 0;fork 0", 3);
            faultAtLast(head + "fork " + (seats - 1) + ";fork 0;fork " + (seats - 1), 3);
        }
        Edge.due("forks at taken seats", Check.laid(TWO + ";fork 0;fork 1").size(5), 2);
    }

    private static void fourForks() {
        Edge.terms("I", "up to 4)");
        StringBuilder text = new StringBuilder(ONE);
        for (int count = 1; count <= 4; count++) {
            text.append(";fork ").append(count);
            Edge.due(count + " forks", Check.laid(text.toString()).size(5), count);
        }
        fault(text + ";fork 5", 5, text.length() + 1);
    }

    private static void knownLine() {
        Edge.terms("I", "known PERSON PERSON years WHOLE KIND (unlike;");
        fine(TWO + ";known a b years 5 plain", 2);
        fault(TWO + ";known a a years 5 plain", 3, TWO.length() + 9);
        fault(TWO + ";known b b years 5 plain", 3, TWO.length() + 9);
        fault(TWO + ";known a years 5 plain", 2, TWO.length() + 9);
        fault(TWO + ";known a b 5 plain", 1, TWO.length() + 11);
        fault(TWO + ";known a b years plain", 1, TWO.length() + 17);
        fault(TWO + ";known a b years 5", 1, TWO.length() + 18);
    }

    private static void knownYears() {
        Edge.terms("I", "0 .. 99;");
        for (int years = 0; years <= 100; years++) {
            String text = TWO + ";known a b years " + years;
            if (years <= 99) {
                Edge.due("years " + years, Check.laid(text + " plain").pair(0, 2), years);
            } else {
                faultAtLast(text, 4);
            }
        }
        faultAtLast(TWO + ";known a b years 999", 4);
    }

    private static void kinds() {
        Edge.terms("I", "KIND: plain, hinged, or ringed;");
        String[] kinds = {"plain", "hinged", "ringed"};
        for (int kind = 0; kind < 3; kind++) {
            Edge.due(kinds[kind], Check.laid(TWO + ";known a b years 5 " + kinds[kind]).pair(0, 4), kind);
        }
        for (String other : new String[] {"fed", "a", "plai", "plains", "hinge", "ring", "5", "table"}) {
            faultAtLast(TWO + ";known a b years 5 " + other, 1);
        }
    }

    private static void eachTwoKnownOnce() {
        Edge.terms("I", "each two once, in whatever order; up to 10)");
        fine(people(5) + twos(9, "known", " years 1 plain"), 5);
        fine(allKnown(), 5);
        Edge.due("ten pairs", Check.laid(allKnown()).size(6), 10);
        fault(allKnown() + ";known a b years 1 plain", 5, allKnown().length() + 1);
        fault(KNOWN + ";known a b years 5 plain", 3, KNOWN.length() + 9);
        fault(KNOWN + ";known b a years 5 plain", 3, KNOWN.length() + 9);
    }

    private static void unsureLine() {
        Edge.terms("I", "unsure PERSON PERSON WHOLE (known;");
        fine(KNOWN + ";unsure b a 3", 2);
        fault(TWO + ";unsure a b 3", 2, TWO.length() + 10);
        fault(KNOWN + ";unsure a b", 1, KNOWN.length() + 11);
        fault(KNOWN + ";unsure a b years 3", 1, KNOWN.length() + 12);
        fault(KNOWN + ";unsure a a 3", 2, KNOWN.length() + 10);
    }

    private static void unsureYears() {
        Edge.terms("I", "whose years at first may be that, 0 .. 99;");
        for (int years : new int[] {0, 1, 5, 98, 99}) {
            fine(KNOWN + ";unsure a b " + years, 2);
        }
        faultAtLast(KNOWN + ";unsure a b 100", 4);
        // 9 apart, known for 0 years; with the other years they could feed or not.
        String far = "table seats 10 slack 0 saw 1 quarrel 0;person a at 0;person b at 9;known a b years 0 plain";
        for (int years : new int[] {8, 9, 10}) {
            Edge.due("fits of " + years, Check.laid(far + ";unsure a b " + years + ";tried a b fed").fits(), years == 9 ? 1 : 0);
        }
        Edge.due("years are as told", Check.laid(far + ";unsure a b 9").pair(0, 2), 0);
    }

    private static void fourUnsure() {
        Edge.terms("I", "each two once; up to 4), or");
        for (int count = 1; count <= 4; count++) {
            Edge.due(count + " unsure", Check.laid(allKnown() + twos(count, "unsure", " 1")).size(7), count);
        }
        String text = allKnown() + twos(4, "unsure", " 1");
        fault(text + ";unsure d e 1", 5, text.length() + 1);
        fault(KNOWN + ";unsure a b 1;unsure a b 1", 3, KNOWN.length() + 23);
        fault(KNOWN + ";unsure a b 1;unsure b a 2", 3, KNOWN.length() + 23);
    }

    private static void triedLine() {
        Edge.terms("I", "tried PERSON PERSON HOW (known; at first; HOW: fed, or starved;");
        fine(KNOWN + ";tried a b fed", 2);
        fine(KNOWN + ";tried b a starved", 2);
        fault(TWO + ";tried a b fed", 2, TWO.length() + 9);
        for (String other : new String[] {"plain", "a", "fe", "feds", "starve", "5", "tried"}) {
            faultAtLast(KNOWN + ";tried a b " + other, 1);
        }
        SpoonTable x = Check.laid("table seats 6 slack 0 saw 2 quarrel 5;person a at 0;person b at 5;known a b years 5 plain;tried a b fed");
        x.year();
        x.sit(1, 3);
        Edge.due("at first, not now", x.judge(), -2);
    }

    private static void sixTried() {
        Edge.terms("I", "each two once; up to 6)");
        for (int count = 1; count <= 6; count++) {
            Edge.due(count + " tried", Check.laid(allKnown() + twos(count, "tried", " fed")).size(8), count);
        }
        String text = allKnown() + twos(6, "tried", " fed");
        fault(text + ";tried d e fed", 5, text.length() + 1);
        fault(KNOWN + ";tried a b fed;tried a b fed", 3, KNOWN.length() + 23);
        fault(KNOWN + ";tried a b fed;tried b a starved", 3, KNOWN.length() + 23);
        fine(KNOWN + ";tried a b fed;unsure b a 5", 2);
    }

    private static void names() {
        Edge.terms("I", "NAMES are WORDS but table, person, fork, known, unsure, tried;");
        for (String word : FIRST_WORDS) {
            fault(HEAD + ";person " + word + " at 0", 1, 45);
        }
        String[] others = {"seats", "slack", "saw", "quarrel", "at", "years", "plain", "hinged", "ringed", "fed", "starved",
            "tables", "tabl", "forks", "know", "z"};
        for (String word : others) {
            fine(HEAD + ";person " + word + " at 0;person a at 1;known a " + word + " years 5 plain;tried " + word + " a fed", 2);
        }
    }

    private static void namesOnce() {
        Edge.terms("I", "each told once, ahead of its use.");
        fault(ONE + ";person a at 1", 3, ONE.length() + 8);
        fault(TWO + ";person b at 2", 3, TWO.length() + 8);
        fault(ONE + ";known a b years 5 plain;person b at 1", 2, ONE.length() + 9);
        fault(HEAD + ";known a b years 5 plain;" + "person a at 0;person b at 1", 2, HEAD.length() + 7);
        fine(TWO + ";person aa at 2;person ab at 3;person ba at 4", 5);
    }

    // ---- faults

    private static void leftmost() {
        Edge.terms("I", "FAULTS, the first that is met from the left,");
        fault("table seats 11 slack ?", 4, 12);
        fault("person a at ?", 6, 0);
        fault(ONE + ";known x ?", 2, ONE.length() + 7);
        fault(ONE + ";person a ?", 3, ONE.length() + 8);
        fault(ONE + ";fork 1;fork 2;fork 3;fork 4;fork ?", 5, ONE.length() + 29);
        fault(ONE + ";known a x years 100 round", 2, ONE.length() + 9);
        fault(ONE + ";table seats 11", 3, ONE.length() + 1);
    }

    private static void leastNumber() {
        Edge.terms("I", "of one place the least number:");
        // At the end: no LINE goes on so, and no person is there.
        fault("", 1, 0);
        fault(HEAD + ";", 1, 38);
        fault("table seats 2 slack 0 saw 1", 1, 27);
        // A first WORD is no NAME, and no such NAME is told.
        for (String word : FIRST_WORDS) {
            fault(TWO + ";known " + word, 1, TWO.length() + 7);
            fault(TWO + ";known a " + word, 1, TWO.length() + 9);
            fault(KNOWN + ";tried " + word, 1, KNOWN.length() + 7);
            fault(KNOWN + ";unsure a " + word, 1, KNOWN.length() + 10);
        }
        // Not known, and one's own: both 2.
        fault(TWO + ";unsure a a 5", 2, TWO.length() + 10);
    }

    private static void form() {
        Edge.terms("I", "1 FORM: the first byte that begins no TOKEN, or TOKEN with which no TABLE goes on");
        fault("?", 1, 0);
        fault("table ?", 1, 6);
        fault("table seats 6?", 1, 13);
        fault("table table", 1, 6);
        fault("table 6", 1, 6);
        fault("table;", 1, 5);
        fault(HEAD + " " + HEAD, 1, 38);
        fault(HEAD + ";person;", 1, 44);
        fault(HEAD + ";person 0 at 0", 1, 45);
        fault(HEAD + ";person a 0", 1, 47);
        fault(HEAD + ";person a at;", 1, 49);
        fault(HEAD + ";person a at at", 1, 50);
        fault(ONE + ";fork;", 1, ONE.length() + 5);
        fault(ONE + ";fork at 0", 1, ONE.length() + 6);
        fault(TWO + ";known 1 2 years 5 plain", 1, TWO.length() + 7);
        fault(TWO + ";known a 2 years 5 plain", 1, TWO.length() + 9);
        fault(TWO + ";known a b for 5 plain", 1, TWO.length() + 11);
    }

    /** Cut behind any of its bytes, a text goes on, or is whole, or its last WORD is cut. */
    private static void formAtTheEnd() {
        Edge.terms("I", "(the end: its place).");
        fault("table", 1, 5);
        fault("table   ", 1, 8);
        fault("table seats", 1, 11);
        fault("table seats 6", 1, 13);
        fault("table seats 6 slack 1 saw 2 quarrel", 1, 35);
        fault(HEAD + ";person", 1, 44);
        fault(HEAD + ";person a", 1, 46);
        fault(HEAD + ";person a at ", 1, 50);
        fault(ONE + ";fork", 1, ONE.length() + 5);
        fault(TWO + ";known", 1, TWO.length() + 6);
        fault(TWO + ";known a", 1, TWO.length() + 8);
        fault(TWO + ";known a b", 1, TWO.length() + 10);
        fault(TWO + ";known a b years", 1, TWO.length() + 16);
        fault(TWO + ";known a b years 5  ", 1, TWO.length() + 20);
        fault(KNOWN + ";unsure a b", 1, KNOWN.length() + 11);
        fault(KNOWN + ";tried a", 1, KNOWN.length() + 8);
        fault(KNOWN + ";tried a b", 1, KNOWN.length() + 10);
    }

    private static void untold() {
        Edge.terms("I", "2 a NAME that isn't told; at it;");
        fault(ONE + ";known z a", 2, ONE.length() + 7);
        fault(ONE + ";known a z", 2, ONE.length() + 9);
        fault(ONE + ";unsure z a", 2, ONE.length() + 8);
        fault(ONE + ";unsure a z", 2, ONE.length() + 10);
        fault(ONE + ";tried z a", 2, ONE.length() + 7);
        fault(ONE + ";tried a z", 2, ONE.length() + 9);
        fault(HEAD + ";known a", 2, HEAD.length() + 7);
        fault(ONE + ";known aa", 2, ONE.length() + 7);
        fault(HEAD + ";person abcdefgh at 0;known abcdefg", 2, HEAD.length() + 28);
    }

    private static void unknown() {
        Edge.terms("I", "a second PERSON whom the first one doesn't know, or who is that one (unsure, tried); at it.");
        String three = KNOWN + ";person c at 2";
        fault(three + ";unsure a c", 2, three.length() + 10);
        fault(three + ";unsure c b", 2, three.length() + 10);
        fault(three + ";tried a c", 2, three.length() + 9);
        fault(three + ";tried c b", 2, three.length() + 9);
        fault(three + ";unsure b b", 2, three.length() + 10);
        fault(three + ";tried b b", 2, three.length() + 9);
        fault(three + ";unsure c c", 2, three.length() + 10);
        fault(KNOWN + ";unsure a b 1;unsure a a", 2, KNOWN.length() + 23);
    }

    private static void again() {
        Edge.terms("I", "3 a NAME told again; at it;");
        fault(ONE + ";person a", 3, ONE.length() + 8);
        fault(TWO + ";person a at 5", 3, TWO.length() + 8);
        fault(HEAD + ";person abcdefgh at 0;person abcdefgh at 1", 3, HEAD.length() + 29);
        fault(people(4) + ";person d at 0", 3, people(4).length() + 8);
    }

    private static void takenSeats() {
        Edge.terms("I", "a SEAT taken, or with a fork already; at it;");
        faultAtLast(ONE + ";person b at 0", 3);
        faultAtLast(people(4) + ";person e at 6", 3);
        faultAtLast(ONE + ";person b at 00", 3);
        faultAtLast(ONE + ";fork 5;fork 5", 3);
        faultAtLast(ONE + ";fork 0;fork 1;fork 2;fork 2", 3);
        fine(ONE + ";fork 0", 1);
    }

    private static void twosAgain() {
        Edge.terms("I", "a second PERSON who is the first, or whom he knows already (known), two unsure or tried already; at it;");
        fault(KNOWN + ";known a a", 3, KNOWN.length() + 9);
        fault(KNOWN + ";known a b", 3, KNOWN.length() + 9);
        fault(KNOWN + ";known b a", 3, KNOWN.length() + 9);
        String last = allKnown() + ";unsure a b 1;unsure a c 1;unsure e d 1;tried a b fed;tried a c fed;tried e d fed";
        fault(last + ";unsure d e", 3, last.length() + 10);
        fault(last + ";tried d e", 3, last.length() + 9);
        String nine = people(5) + twos(9, "known", " years 1 plain");
        fault(nine + ";known c e", 3, nine.length() + 9);
        fault(nine + ";known e c", 3, nine.length() + 9);
        fault(KNOWN + ";unsure a b 1;unsure a b", 3, KNOWN.length() + 23);
        fault(KNOWN + ";unsure a b 1;unsure b a", 3, KNOWN.length() + 23);
        fault(KNOWN + ";tried a b fed;tried a b", 3, KNOWN.length() + 23);
        fault(KNOWN + ";tried a b fed;tried b a", 3, KNOWN.length() + 23);
    }

    private static void secondTable() {
        Edge.terms("I", "a second table: at that WORD.");
        fault(HEAD + ";table", 3, 38);
        fault(ONE + ";table seats 99", 3, ONE.length() + 1);
        fault(ONE + ";  table ?", 3, ONE.length() + 3);
    }

    private static void outOfBounds() {
        Edge.terms("I", "4 a WHOLE out of bounds; at it.");
        faultAtLast("table seats 0", 4);
        faultAtLast("table seats 2 slack 999", 4);
        faultAtLast("table seats 2 slack 0 saw 0", 4);
        faultAtLast("table seats 2 slack 0 saw 1 quarrel 101", 4);
        faultAtLast(HEAD + ";person a at 6", 4);
        faultAtLast(ONE + ";fork 6", 4);
        faultAtLast(TWO + ";known a b years 100", 4);
        faultAtLast(KNOWN + ";unsure a b 100", 4);
    }

    private static void many() {
        Edge.terms("I", "5 MANY: a LINE more of its sort than there is room for, at its first WORD.");
        fault(people(5) + ";person", 5, people(5).length() + 1);
        fault(people(5) + ";  person a at 9", 5, people(5).length() + 3);
        String forks = ONE + ";fork 1;fork 2;fork 3;fork 4";
        fault(forks + ";fork 4", 5, forks.length() + 1);
        fault(forks + ";fork", 5, forks.length() + 1);
        fault(allKnown() + ";known x x", 5, allKnown().length() + 1);
        String unsure = allKnown() + twos(4, "unsure", " 1");
        fault(unsure + ";unsure 100", 5, unsure.length() + 1);
        String tried = allKnown() + twos(6, "tried", " fed");
        fault(tried + ";tried tried", 5, tried.length() + 1);
        fine(tried + twos(4, "unsure", " 1") + ";fork 0;fork 1;fork 2;fork 3", 5);
    }

    private static void lacks() {
        Edge.terms("I", "6 LACKS: any LINE ahead of the table; at its WORD; at the end: no person.");
        for (String word : FIRST_WORDS) {
            if (!word.equals("table")) {
                fault(word, 6, 0);
                fault("  " + word + " ?", 6, 2);
            }
        }
        fault(HEAD, 6, 37);
        fault(HEAD + "  ", 6, 39);
        fault(HEAD + ";fork 0;fork 1;fork 2;fork 3", 6, HEAD.length() + 28);
        fine(HEAD + ";person a at 0", 1);
    }
}
