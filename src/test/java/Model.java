import java.math.BigInteger;
import java.util.ArrayDeque;
import java.util.ArrayList;
import java.util.Arrays;
import java.util.Deque;
import java.util.List;
import java.util.NoSuchElementException;

/**
 * The document once more, written as plainly and as slowly as its words go, by other ways than the class:
 * whole snapshots for undoing, all subsets for matches, all rows for seats. ModelTest sets it beside the class.
 */
public final class Model {
    static final class Fault extends RuntimeException {
        private static final long serialVersionUID = 1L;
        final int number;
        final int place;

        Fault(int number, int place) {
            this.number = number;
            this.place = place;
        }
    }

    record Token(String text, int place) {
    }

    static final class Pair {
        int one, other, years, sawn;
        String kind;

        Pair(int one, int other, int years, String kind) {
            this.one = one;
            this.other = other;
            this.years = years;
            this.kind = kind;
        }

        Pair copy() {
            Pair c = new Pair(one, other, years, kind);
            c.sawn = sawn;
            return c;
        }

        boolean of(int p) {
            return one == p || other == p;
        }

        int mate(int p) {
            return one == p ? other : one;
        }

        int handle() {
            return kind.equals("ringed") ? 1 : Math.max(0, years - sawn);
        }
    }

    static final class State {
        List<Integer> seat = new ArrayList<>();
        List<Pair> pairs = new ArrayList<>();
        List<Integer> forks = new ArrayList<>();
        int gone;

        State copy() {
            State c = new State();
            c.seat.addAll(seat);
            for (Pair p : pairs) {
                c.pairs.add(p.copy());
            }
            c.forks.addAll(forks);
            c.gone = gone;
            return c;
        }
    }

    static final class Told {
        int seats, slack, saw, quarrel;
        List<String> names = new ArrayList<>();
        State first = new State();
        List<int[]> unsure = new ArrayList<>();
        List<Integer> tried = new ArrayList<>();
        List<Boolean> triedFed = new ArrayList<>();
    }

    private List<Integer> tape = new ArrayList<>();
    private Told told;
    private State now;
    private Deque<State> past = new ArrayDeque<>();
    private List<State> images = new ArrayList<>();
    private int trouble, fault, place;

    // ---- the text

    private static List<Token> tokens(String text) {
        List<Token> all = new ArrayList<>();
        int i = 0;
        while (i < text.length()) {
            if (text.charAt(i) == ' ') {
                i++;
                continue;
            }
            java.util.regex.Matcher m = java.util.regex.Pattern.compile("[a-z]+|[0-9]+|(?s:.)").matcher(text);
            m.find(i);
            all.add(new Token(m.group(), i));
            i = m.end();
        }
        all.add(new Token("", text.length()));
        return all;
    }

    private static boolean isWord(String t) {
        return t.matches("[a-z]{1,8}");
    }

    private static boolean isWhole(String t) {
        return t.matches("[0-9]{1,3}");
    }

    private static final List<String> LINES = List.of("table", "person", "fork", "known", "unsure", "tried");
    private static final List<String> FORMS = List.of(
        "seats # slack # saw # quarrel #", "N at #", "#", "P P years # K", "P P #", "P P H");

    private static Told parse(String text) {
        List<Token> ts = tokens(text);
        Told told = new Told();
        int at = 0;
        while (true) {
            Token head = ts.get(at++);
            int sort = LINES.indexOf(head.text());
            if (sort < 0) {
                throw new Fault(1, head.place());
            }
            if (sort == 0 && told.seats > 0) {
                throw new Fault(3, head.place());
            }
            if (count(told, sort) >= new int[] {1, 5, 4, 10, 4, 6}[sort]) {
                throw new Fault(5, head.place());
            }
            if (sort > 0 && told.seats == 0) {
                throw new Fault(6, head.place());
            }
            List<String> line = new ArrayList<>();
            for (String want : FORMS.get(sort).split(" ")) {
                Token t = ts.get(at++);
                if (!fits(t.text(), want)) {
                    throw new Fault(1, t.place());
                }
                line.add(t.text());
                int number = wrongIn(told, sort, line);
                if (number > 0) {
                    throw new Fault(number, t.place());
                }
            }
            take(told, sort, line);
            Token t = ts.get(at++);
            if (t.text().isEmpty()) {
                if (told.names.isEmpty()) {
                    throw new Fault(6, t.place());
                }
                return told;
            }
            if (!t.text().equals(";")) {
                throw new Fault(1, t.place());
            }
        }
    }

    private static int count(Told t, int sort) {
        return new int[] {t.seats > 0 ? 1 : 0, t.names.size(), t.first.forks.size(), t.first.pairs.size(),
            t.unsure.size(), t.tried.size()}[sort];
    }

    private static boolean fits(String text, String want) {
        switch (want) {
            case "#": return isWhole(text);
            case "N":
            case "P": return isWord(text) && !LINES.contains(text);
            case "K": return List.of("plain", "hinged", "ringed").contains(text);
            case "H": return List.of("fed", "starved").contains(text);
            default: return text.equals(want);
        }
    }

    /** The fault, but for the form, of the latest token of a line so far. */
    private static int wrongIn(Told t, int sort, List<String> line) {
        int i = line.size() - 1;
        String text = line.get(i);
        int value = isWhole(text) ? Integer.parseInt(text) : -1;
        if (sort == 0) {
            int[] least = {2, 0, 1, 0};
            int[] most = {10, 3, 9, 100};
            return value >= 0 && (value < least[i / 2] || value > most[i / 2]) ? 4 : 0;
        }
        if (sort == 1) {
            if (i == 0) {
                return t.names.contains(text) ? 3 : 0;
            }
            return value < 0 ? 0 : value >= t.seats ? 4 : t.first.seat.contains(value) ? 3 : 0;
        }
        if (sort == 2) {
            return value >= t.seats ? 4 : t.first.forks.contains(value) ? 3 : 0;
        }
        if (value > 99) {
            return 4;
        }
        if (i > 1) {
            return 0;
        }
        int p = t.names.indexOf(text);
        if (p < 0) {
            return 2;
        }
        if (i == 0) {
            return 0;
        }
        int first = t.names.indexOf(line.get(0));
        int k = pairIn(t.first, first, p);
        if (sort == 3) {
            return first == p || k >= 0 ? 3 : 0;
        }
        if (k < 0) {
            return 2;
        }
        boolean again = sort == 4 ? t.unsure.stream().anyMatch(u -> u[0] == k) : t.tried.contains(k);
        return again ? 3 : 0;
    }

    private static void take(Told t, int sort, List<String> line) {
        switch (sort) {
            case 0:
                t.seats = Integer.parseInt(line.get(1));
                t.slack = Integer.parseInt(line.get(3));
                t.saw = Integer.parseInt(line.get(5));
                t.quarrel = Integer.parseInt(line.get(7));
                return;
            case 1:
                t.names.add(line.get(0));
                t.first.seat.add(Integer.parseInt(line.get(2)));
                return;
            case 2:
                t.first.forks.add(Integer.parseInt(line.get(0)));
                return;
            default:
        }
        int p = t.names.indexOf(line.get(0));
        int q = t.names.indexOf(line.get(1));
        if (sort == 3) {
            t.first.pairs.add(new Pair(p, q, Integer.parseInt(line.get(3)), line.get(4)));
        } else if (sort == 4) {
            t.unsure.add(new int[] {pairIn(t.first, p, q), Integer.parseInt(line.get(2))});
        } else {
            t.tried.add(pairIn(t.first, p, q));
            t.triedFed.add(line.get(2).equals("fed"));
        }
    }

    private static int pairIn(State s, int p, int q) {
        for (int k = 0; k < s.pairs.size(); k++) {
            if (p != q && s.pairs.get(k).of(p) && s.pairs.get(k).of(q)) {
                return k;
            }
        }
        return -2;
    }

    // ---- what a state says

    private int people() {
        return told == null ? 0 : told.names.size();
    }

    private static int far(State s, Pair p) {
        return Math.abs(s.seat.get(p.one) - s.seat.get(p.other));
    }

    private boolean can(State s, Pair p) {
        int far = far(s, p);
        return Math.abs(far - p.handle()) <= told.slack
            || p.kind.equals("hinged") && Math.abs(far - Math.floorDiv(p.handle(), 2)) <= told.slack;
    }

    private static int forksOf(State s, int a, int b) {
        int n = 0;
        for (int f : s.forks) {
            if (f > Math.min(a, b) && f < Math.max(a, b)) {
                n++;
            }
        }
        return n;
    }

    private static int slopsOf(State s, Pair p) {
        return Math.max(0, far(s, p) - 3 * forksOf(s, s.seat.get(p.one), s.seat.get(p.other)));
    }

    private List<Integer> matchesOf(State s) {
        List<Integer> all = new ArrayList<>();
        for (int bits = 0; bits < 1 << s.pairs.size(); bits++) {
            if (Integer.bitCount(bits) <= 2 && isMatch(s, bits)) {
                all.add(bits);
            }
        }
        return all;
    }

    private boolean isMatch(State s, int bits) {
        int used = 0;
        for (int k = 0; k < s.pairs.size(); k++) {
            if ((bits >> k & 1) == 1) {
                Pair p = s.pairs.get(k);
                int both = 1 << p.one | 1 << p.other;
                if ((used & both) != 0 || !can(s, p)) {
                    return false;
                }
                used |= both;
            }
        }
        return true;
    }

    private static int slopsOf(State s, int bits) {
        int sum = 0;
        for (int k = 0; k < s.pairs.size(); k++) {
            sum += (bits >> k & 1) * slopsOf(s, s.pairs.get(k));
        }
        return sum;
    }

    private int bestOf(State s) {
        List<Integer> all = matchesOf(s);
        all.sort((x, y) -> {
            int fed = Integer.compare(Integer.bitCount(y), Integer.bitCount(x));
            int slop = Integer.compare(slopsOf(s, x), slopsOf(s, y));
            return fed != 0 ? fed : slop != 0 ? slop : Integer.compare(x, y);
        });
        return all.get(0);
    }

    private int fedOf(State s) {
        return 2 * Integer.bitCount(bestOf(s));
    }

    private State behind(int n) {
        State s = now.copy();
        for (Pair p : s.pairs) {
            p.years += n;
        }
        return s;
    }

    private static Pair heldBy(State s, int bits, int p) {
        for (int k = 0; k < s.pairs.size(); k++) {
            if ((bits >> k & 1) == 1 && s.pairs.get(k).of(p)) {
                return s.pairs.get(k);
            }
        }
        return null;
    }

    private boolean wouldLeave(State s, int bits, int k) {
        Pair p = s.pairs.get(k);
        if ((bits >> k & 1) == 1 || !can(s, p)) {
            return false;
        }
        for (int me : new int[] {p.one, p.other}) {
            Pair held = heldBy(s, bits, me);
            if (held != null) {
                // The longer handle first, of like ones the lesser number: a larger sum is rather had.
                int mine = 10 * held.handle() - held.mate(me);
                int theirs = 10 * p.handle() - p.mate(me);
                if (theirs <= mine) {
                    return false;
                }
            }
        }
        return true;
    }

    private List<Integer> stables() {
        List<Integer> all = new ArrayList<>();
        for (int bits : matchesOf(now)) {
            boolean none = true;
            for (int k = 0; k < now.pairs.size(); k++) {
                none &= !wouldLeave(now, bits, k);
            }
            if (none) {
                all.add(bits);
            }
        }
        return all;
    }

    // ---- refusals

    private int no(int why) {
        trouble = why;
        return -1;
    }

    private boolean bare() {
        trouble = told == null ? 1 : 0;
        return told == null;
    }

    private boolean nobody(int p) {
        trouble = p < 0 || p >= people() ? 1 : 0;
        return trouble == 1;
    }

    private boolean notTwo(int p, int q) {
        return nobody(p) || nobody(q) || p == q && no(1) == -1;
    }

    private boolean noPair(int k) {
        trouble = told == null || k < 0 || k >= now.pairs.size() ? 1 : 0;
        return trouble == 1;
    }

    // ---- the face

    public int feed(int a, int b, int c, int d, int e) {
        if (tape.size() + 20 > 800) {
            return -1;
        }
        for (int n : new int[] {a, b, c, d, e}) {
            for (byte x : java.nio.ByteBuffer.allocate(4).putInt(n).array()) {
                tape.add(x & 255);
            }
        }
        return tape.size();
    }

    public int table(int n) {
        if (n < 0 || n > tape.size()) {
            return no(2);
        }
        StringBuilder text = new StringBuilder();
        for (int i = 0; i < n; i++) {
            text.append((char) (int) tape.get(i));
        }
        tape.clear();
        try {
            told = parse(text.toString());
        } catch (Fault f) {
            fault = f.number;
            place = f.place;
            return no(4);
        }
        trouble = 0;
        fault = 0;
        now = told.first.copy();
        past.clear();
        images.clear();
        return people();
    }

    public int fault() {
        return fault;
    }

    public int where() {
        return trouble == 4 ? place : -1;
    }

    public int seat(int p) {
        return nobody(p) ? -1 : now.seat.get(p);
    }

    public int pair(int k, int what) {
        if (noPair(k)) {
            return -1;
        }
        Pair p = now.pairs.get(k);
        int[] all = {p.one, p.other, p.years, p.handle(), List.of("plain", "hinged", "ringed").indexOf(p.kind),
            p.sawn, can(now, p) ? 1 : 0, slopsOf(now, p)};
        return what >= 0 && what < all.length ? all[what] : no(1);
    }

    public int pairOf(int p, int q) {
        return notTwo(p, q) ? -1 : pairIn(now, p, q);
    }

    public int feeders(int p) {
        return nobody(p) ? -1 : feedersOf(p);
    }

    private int feedersOf(int p) {
        int bits = 0;
        for (Pair pair : now.pairs) {
            if (pair.of(p) && can(now, pair)) {
                bits |= 1 << pair.mate(p);
            }
        }
        return bits;
    }

    public int forks(int p, int q) {
        return notTwo(p, q) ? -1 : forksOf(now, now.seat.get(p), now.seat.get(q));
    }

    public int fed() {
        return bare() ? -1 : fedOf(now);
    }

    public int match() {
        return bare() ? -1 : bestOf(now);
    }

    public int slops() {
        return bare() ? -1 : slopsOf(now, bestOf(now));
    }

    public int mate(int p) {
        if (nobody(p)) {
            return -1;
        }
        Pair held = heldBy(now, bestOf(now), p);
        return held == null ? -2 : held.mate(p);
    }

    public int starving() {
        if (bare()) {
            return -1;
        }
        int bits = 0;
        for (int p = 0; p < people(); p++) {
            bits |= heldBy(now, bestOf(now), p) == null ? 1 << p : 0;
        }
        return bits;
    }

    public int matches() {
        return bare() ? -1 : matchesOf(now).size();
    }

    public int handleIn(int k, int n) {
        if (noPair(k)) {
            return -1;
        }
        return n < 0 || n > 60 ? no(2) : behind(n).pairs.get(k).handle();
    }

    public int feedsIn(int k) {
        if (noPair(k)) {
            return -1;
        }
        for (int n = 0; n <= 60; n++) {
            State s = behind(n);
            if (can(s, s.pairs.get(k))) {
                return n;
            }
        }
        return -2;
    }

    public int feedsOften(int k) {
        if (noPair(k)) {
            return -1;
        }
        int often = 0;
        for (int n = 0; n <= 60; n++) {
            State s = behind(n);
            often += can(s, s.pairs.get(k)) ? 1 : 0;
        }
        return often;
    }

    public int fedIn(int n) {
        if (bare()) {
            return -1;
        }
        return n < 0 || n > 60 ? no(2) : fedOf(behind(n));
    }

    public int bestYear() {
        if (bare()) {
            return -1;
        }
        int best = 0;
        for (int n = 1; n <= 60; n++) {
            if (fedOf(behind(n)) > fedOf(behind(best))) {
                best = n;
            }
        }
        return best;
    }

    public int allIn() {
        if (bare()) {
            return -1;
        }
        for (int n = 0; n <= 60; n++) {
            if (people() - fedOf(behind(n)) <= 1) {
                return n;
            }
        }
        return -2;
    }

    // ---- seats

    /** Fed pairs and slops of the best match by a row of seats, person by person: {pairs, slops}. */
    private int[] worth(State s, int from, int used) {
        int p = from;
        while (p < people() && (used >> p & 1) == 1) {
            p++;
        }
        if (p >= people()) {
            return new int[] {0, 0};
        }
        int[] best = worth(s, p + 1, used | 1 << p);
        for (Pair pair : s.pairs) {
            if (pair.of(p) && (used >> pair.mate(p) & 1) == 0 && pair.mate(p) > p && can(s, pair)) {
                int[] rest = worth(s, p + 1, used | 1 << p | 1 << pair.mate(p));
                int[] all = {rest[0] + 1, rest[1] + slopsOf(s, pair)};
                if (all[0] > best[0] || all[0] == best[0] && all[1] < best[1]) {
                    best = all;
                }
            }
        }
        return best;
    }

    private State bestSeats;
    private int[] bestWorth;

    private void tryRows(State s, int p) {
        if (p == people()) {
            int[] w = worth(s, 0, 0);
            if (bestSeats == null || w[0] > bestWorth[0] || w[0] == bestWorth[0] && w[1] < bestWorth[1]) {
                bestSeats = s.copy();
                bestWorth = w;
            }
            return;
        }
        for (int seat = 0; seat < told.seats; seat++) {
            if (!s.seat.subList(0, p).contains(seat)) {
                s.seat.set(p, seat);
                tryRows(s, p + 1);
            }
        }
    }

    private void seek() {
        bestSeats = null;
        tryRows(now.copy(), 0);
    }

    public int seating() {
        if (bare()) {
            return -1;
        }
        seek();
        return 2 * bestWorth[0];
    }

    public int seatAt(int p) {
        if (nobody(p)) {
            return -1;
        }
        seek();
        return bestSeats.seat.get(p);
    }

    public int seatSlops() {
        if (bare()) {
            return -1;
        }
        seek();
        return bestWorth[1];
    }

    private int fedIfSwapped(int p, int q) {
        State s = now.copy();
        java.util.Collections.swap(s.seat, p, q);
        return fedOf(s);
    }

    public int swapped(int p, int q) {
        return notTwo(p, q) ? -1 : fedIfSwapped(p, q);
    }

    public int bestSwap() {
        if (bare()) {
            return -1;
        }
        int best = -2;
        int most = fedOf(now);
        for (int code = 0; code < 50; code++) {
            int p = code / 10;
            int q = code % 10;
            if (p < q && q < people() && fedIfSwapped(p, q) > most) {
                most = fedIfSwapped(p, q);
                best = code;
            }
        }
        return best;
    }

    public int better(int p) {
        if (nobody(p)) {
            return -1;
        }
        int best = -2;
        int most = fedOf(now);
        for (int seat = 0; seat < told.seats; seat++) {
            State s = now.copy();
            if (!s.seat.contains(seat)) {
                s.seat.set(p, seat);
                if (fedOf(s) > most) {
                    most = fedOf(s);
                    best = seat;
                }
            }
        }
        return best;
    }

    public int forkAt() {
        if (bare()) {
            return -1;
        }
        int best = -2;
        int least = Integer.MAX_VALUE;
        for (int seat = 0; seat < told.seats; seat++) {
            State s = now.copy();
            if (!s.forks.contains(seat)) {
                s.forks.add(seat);
                int slop = slopsOf(s, bestOf(s));
                if (slop < least) {
                    least = slop;
                    best = seat;
                }
            }
        }
        return best;
    }

    // ---- saws, acquaintances

    private int inchesOf(int k) {
        State s = now.copy();
        Pair p = s.pairs.get(k);
        for (int inches = 0; inches <= 2000; inches++) {
            if (can(s, p)) {
                return inches;
            }
            if (p.kind.equals("ringed") || p.handle() == 0) {
                return -1;
            }
            p.sawn++;
        }
        return -1;
    }

    /** {inches, bits}, or null. */
    private int[] sawing() {
        int[] best = null;
        for (int bits = 0; bits < 1 << now.pairs.size(); bits++) {
            if (Integer.bitCount(bits) == people() / 2) {
                int used = 0;
                int sum = 0;
                boolean fine = true;
                for (int k = 0; k < now.pairs.size() && fine; k++) {
                    if ((bits >> k & 1) == 1) {
                        Pair p = now.pairs.get(k);
                        int both = 1 << p.one | 1 << p.other;
                        fine = (used & both) == 0 && inchesOf(k) >= 0;
                        used |= both;
                        sum += inchesOf(k);
                    }
                }
                if (fine && (best == null || sum < best[0])) {
                    best = new int[] {sum, bits};
                }
            }
        }
        return best;
    }

    public int saws() {
        if (bare()) {
            return -1;
        }
        int[] best = sawing();
        return best == null ? -2 : best[0];
    }

    public int sawsOf(int k) {
        if (noPair(k)) {
            return -1;
        }
        int[] best = sawing();
        return best == null ? -2 : (best[1] >> k & 1) == 1 ? inchesOf(k) : 0;
    }

    /** The bits, or -2: every set of twos who don't know each other is tried. */
    private int meeting(int n) {
        List<int[]> twos = new ArrayList<>();
        for (int a = 0; a < people(); a++) {
            for (int b = a + 1; b < people(); b++) {
                twos.add(new int[] {a, b});
            }
        }
        int best = -2;
        for (int bits = 0; bits < 1 << twos.size(); bits++) {
            if (Integer.bitCount(bits) > 2 || best >= 0 && Integer.bitCount(bits) >= Integer.bitCount(best)) {
                continue;
            }
            State s = now.copy();
            boolean fine = true;
            for (int t = 0; t < twos.size(); t++) {
                if ((bits >> t & 1) == 1) {
                    fine &= pairIn(now, twos.get(t)[0], twos.get(t)[1]) < 0;
                    s.pairs.add(new Pair(twos.get(t)[0], twos.get(t)[1], 0, "plain"));
                }
            }
            for (Pair p : s.pairs) {
                p.years += n;
            }
            if (fine && people() - 2 * worth(s, 0, 0)[0] <= 1) {
                best = bits;
            }
        }
        return best;
    }

    public int meet(int n) {
        if (bare()) {
            return -1;
        }
        if (n < 0 || n > 60) {
            return no(2);
        }
        int bits = meeting(n);
        return bits < 0 ? -2 : Integer.bitCount(bits);
    }

    public int meetAt(int n) {
        if (bare()) {
            return -1;
        }
        return n < 0 || n > 60 ? no(2) : meeting(n);
    }

    public int stable() {
        return bare() ? -1 : stables().size();
    }

    public int stableAt(int i) {
        if (bare()) {
            return -1;
        }
        return i < 0 || i >= stables().size() ? no(1) : stables().get(i);
    }

    public int leaves() {
        if (bare()) {
            return -1;
        }
        for (int k = 0; k < now.pairs.size(); k++) {
            if (wouldLeave(now, bestOf(now), k)) {
                return k;
            }
        }
        return -2;
    }

    // ---- unsure years

    private boolean so(int set, int i) {
        State s = told.first.copy();
        for (int u = 0; u < told.unsure.size(); u++) {
            if ((set >> u & 1) == 1) {
                s.pairs.get(told.unsure.get(u)[0]).years = told.unsure.get(u)[1];
            }
        }
        return can(s, s.pairs.get(told.tried.get(i))) == told.triedFed.get(i);
    }

    private List<Integer> fitting() {
        List<Integer> all = new ArrayList<>();
        for (int set = 0; set < 1 << told.unsure.size(); set++) {
            boolean fine = true;
            for (int i = 0; i < told.tried.size(); i++) {
                fine &= so(set, i);
            }
            if (fine) {
                all.add(set);
            }
        }
        return all;
    }

    public int fits() {
        return bare() ? -1 : fitting().size();
    }

    public int fitAt(int i) {
        if (bare()) {
            return -1;
        }
        return i < 0 || i >= fitting().size() ? no(1) : fitting().get(i);
    }

    public int could() {
        return bare() ? -1 : fitting().stream().reduce(0, (x, y) -> x | y);
    }

    public int surely() {
        return bare() ? -1 : fitting().stream().reduce((x, y) -> x & y).orElse(0);
    }

    private int left(int u) {
        int with = (int) fitting().stream().filter(s -> (s >> u & 1) == 1).count();
        return Math.max(with, fitting().size() - with);
    }

    public int ask() {
        if (bare()) {
            return -1;
        }
        int best = -2;
        for (int u = 0; u < told.unsure.size() && !fitting().isEmpty(); u++) {
            if (best < 0 || left(u) < left(best)) {
                best = u;
            }
        }
        return best;
    }

    public int askLeaves() {
        int best = ask();
        return best < 0 ? best : left(best);
    }

    public int judge() {
        if (bare()) {
            return -1;
        }
        for (int i = 0; i < told.tried.size(); i++) {
            if (!so(0, i)) {
                return i;
            }
        }
        return -2;
    }

    // ---- saw or sit

    private static int[] shares(int pride, boolean one, boolean other) {
        if (one && other) {
            return new int[] {-pride, -pride};
        }
        if (one) {
            return new int[] {0, 4};
        }
        return other ? new int[] {4, 0} : new int[] {2, 2};
    }

    public int saw(int pride, boolean one, boolean other, boolean ofOther) {
        if (bare() || pride < 0 || pride > 9) {
            trouble = told == null ? 1 : 2;
            return -100;
        }
        return shares(pride, one, other)[ofOther ? 1 : 0];
    }

    private static List<Integer> resting(int pride) {
        List<Integer> all = new ArrayList<>();
        for (boolean one : new boolean[] {false, true}) {
            for (boolean other : new boolean[] {false, true}) {
                if (shares(pride, !one, other)[0] <= shares(pride, one, other)[0]
                    && shares(pride, one, !other)[1] <= shares(pride, one, other)[1]) {
                    all.add((one ? 10 : 0) + (other ? 1 : 0));
                }
            }
        }
        return all;
    }

    public int rests(int pride) {
        if (bare()) {
            return -1;
        }
        return pride < 0 || pride > 9 ? no(2) : resting(pride).size();
    }

    public int rest(int pride) {
        if (bare()) {
            return -1;
        }
        return pride < 0 || pride > 9 ? no(2) : resting(pride).isEmpty() ? -2 : resting(pride).get(0);
    }

    // ---- quarrels

    private void quarrelOf(Pair p) {
        p.sawn += p.kind.equals("ringed") ? 0 : Math.min(told.saw, p.handle());
    }

    /** By all the ways to quarrel or not in n years: {upper, lower}. */
    private long[] chance(int k, int n, boolean ofHandle) {
        BigInteger sum = BigInteger.ZERO;
        BigInteger whole = BigInteger.valueOf(100).pow(n);
        for (int ways = 0; ways < 1 << n; ways++) {
            State s = now.copy();
            Pair p = s.pairs.get(k);
            BigInteger weight = BigInteger.ONE;
            for (int i = 0; i < n; i++) {
                p.years++;
                boolean quarrels = (ways >> i & 1) == 1;
                if (quarrels) {
                    quarrelOf(p);
                }
                weight = weight.multiply(BigInteger.valueOf(quarrels ? told.quarrel : 100 - told.quarrel));
            }
            long value = ofHandle ? p.handle() : can(s, p) ? 1 : 0;
            sum = sum.add(weight.multiply(BigInteger.valueOf(value)));
        }
        BigInteger g = sum.gcd(whole);
        return new long[] {sum.divide(g).longValueExact(), whole.divide(g).longValueExact()};
    }

    public long odds(int k, int n, boolean lower) {
        if (noPair(k)) {
            return -1;
        }
        return n < 0 || n > 8 ? no(2) : chance(k, n, false)[lower ? 1 : 0];
    }

    public long mean(int k, int n, boolean lower) {
        if (noPair(k)) {
            return -1;
        }
        if (n < 0 || n > 8) {
            return no(2);
        }
        return now.pairs.get(k).handle() > 900 ? no(3) : chance(k, n, true)[lower ? 1 : 0];
    }

    private State drawn(int seed, int n) {
        State s = now.copy();
        long x = seed;
        for (int i = 0; i < n; i++) {
            for (Pair p : s.pairs) {
                p.years++;
                x = (75 * x + 74) % 65537;
                if (x % 100 < told.quarrel) {
                    quarrelOf(p);
                }
            }
        }
        return s;
    }

    public int drawnHandle(int k, int seed, int n) {
        if (noPair(k)) {
            return -1;
        }
        return seed < 0 || seed > 65536 || n < 0 || n > 60 ? no(2) : drawn(seed, n).pairs.get(k).handle();
    }

    public int drawnFed(int seed, int n) {
        if (bare()) {
            return -1;
        }
        return seed < 0 || seed > 65536 || n < 0 || n > 60 ? no(2) : fedOf(drawn(seed, n));
    }

    // ---- acts

    private void keep() {
        past.addLast(now.copy());
        if (past.size() > 16) {
            past.removeFirst();
        }
    }

    public int year() {
        if (bare()) {
            return -1;
        }
        if (now.gone == 999) {
            return no(3);
        }
        keep();
        now = behind(1);
        now.gone++;
        return fedOf(now);
    }

    public int quarrel(int k) {
        if (noPair(k)) {
            return -1;
        }
        Pair p = now.pairs.get(k);
        if (p.kind.equals("ringed") || p.handle() == 0) {
            return no(5);
        }
        keep();
        quarrelOf(now.pairs.get(k));
        return p.handle();
    }

    public int sit(int p, int seat) {
        if (nobody(p)) {
            return -1;
        }
        if (seat < 0 || seat >= told.seats) {
            return no(2);
        }
        if (now.seat.contains(seat)) {
            return no(5);
        }
        keep();
        return now.seat.set(p, seat);
    }

    public int know(int p, int q) {
        if (notTwo(p, q)) {
            return -1;
        }
        if (pairIn(now, p, q) >= 0) {
            return no(5);
        }
        keep();
        now.pairs.add(new Pair(p, q, 0, "plain"));
        return now.pairs.size() - 1;
    }

    public boolean undo() {
        trouble = past.isEmpty() ? 6 : 0;
        if (trouble == 0) {
            now = past.removeLast();
        }
        return trouble == 0;
    }

    public int image() {
        if (bare()) {
            return -1;
        }
        if (images.size() == 3) {
            return no(3);
        }
        images.add(now.copy());
        return images.size() - 1;
    }

    public boolean back(int image) {
        trouble = image < 0 || image >= images.size() ? 1 : 0;
        if (trouble == 0) {
            now = images.get(image).copy();
            past.clear();
        }
        return trouble == 0;
    }

    public int led(int i) {
        List<Integer> all = new ArrayList<>();
        for (int p = 0; p < people(); p++) {
            if (feedersOf(p) == 0) {
                all.add(p);
            }
        }
        if (i < 0 || i >= all.size()) {
            throw new NoSuchElementException();
        }
        return all.get(i);
    }

    public int size(int what) {
        int[] all = new int[13];
        if (told != null) {
            all = new int[] {told.seats, told.slack, told.saw, told.quarrel, people(), told.first.forks.size(),
                now.pairs.size(), told.unsure.size(), told.tried.size(), now.gone, past.size(), images.size(), 0};
        }
        all[12] = tape.size();
        return what >= 0 && what <= 12 ? all[what] : -1;
    }

    public int trouble() {
        return trouble;
    }

    @Override
    public String toString() {
        return told == null ? "no table" : Arrays.toString(now.seat.toArray());
    }
}
