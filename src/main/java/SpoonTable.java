import java.util.NoSuchElementException;

/** People at a long table, whose spoons are as long as two have known each other: see README.md. */
public final class SpoonTable {
    public static final int NONE = -1;

    // Answers of calls that are not refused, though what they ask for is not there; saw()'s refusal.
    private static final int NOTHING = -2;
    private static final int NO_SHARE = -100;

    private static final int MOST_SEATS = 10;
    private static final int MOST_PEOPLE = 5;
    private static final int MOST_FORKS = 4;
    private static final int MOST_PAIRS = 10;
    private static final int MOST_UNSURE = 4;
    private static final int MOST_TRIED = 6;
    private static final int MOST_FITS = 1 << MOST_UNSURE;
    private static final int MOST_MATCHES = 26;
    private static final int MOST_ACTS = 16;
    private static final int MOST_IMAGES = 3;
    private static final int MOST_SLACK = 3;
    private static final int MOST_SAW = 9;
    private static final int HUNDRED = 100;
    private static final int MOST_TOLD_YEARS = 99;
    private static final int MOST_YEARS_GONE = 999;
    private static final int YEARS_AHEAD = 60;
    private static final int YEARS_OF_CHANCE = 8;
    private static final int LONGEST_MEANT = 900;
    private static final int MOST_PRIDE = 9;
    private static final int TAPE_BYTES = 800;
    private static final int FEED_BYTES = 20;
    private static final int SEEDS = 65537;
    // What a fed pair is worth in the search for seats, ahead of all that can be slopped.
    private static final int FED_WORTH = 1000;

    private static final int PLAIN = 0;
    private static final int HINGED = 1;
    private static final int RINGED = 2;

    private static final int NO_SUCH = 1;
    private static final int BAD_NUMBER = 2;
    private static final int NO_ROOM = 3;
    private static final int FAULTY = 4;
    private static final int NOT_SO = 5;
    private static final int NONE_THERE = 6;

    private static final int YEAR_ACT = 0;
    private static final int QUARREL_ACT = 1;
    private static final int SIT_ACT = 2;
    private static final int KNOW_ACT = 3;

    private final Parser parser;
    private final Board board;
    private final Now now;
    private final Scene scene;
    private final Seater seater;
    private final Choice choice;
    private final Fitter fitter;
    private final Past past;
    private final Now[] images;
    private int imageCount;
    private int lastTrouble;
    private int lastFault;
    private int lastPlace;

    public SpoonTable() {
        Board told = new Board();
        Now standing = new Now();
        parser = new Parser();
        board = told;
        now = standing;
        scene = new Scene(told, standing);
        seater = new Seater(told, standing);
        choice = new Choice();
        fitter = new Fitter(told);
        past = new Past();
        images = new Now[MOST_IMAGES];
        for (int i = 0; i < MOST_IMAGES; i++) {
            images[i] = new Now();
        }
    }

    // ---- the table

    public int feed(int a, int b, int c, int d, int e) {
        Reader tape = parser.reader;
        if (tape.length > TAPE_BYTES - FEED_BYTES) {
            return NONE;
        }
        tape.append(a);
        tape.append(b);
        tape.append(c);
        tape.append(d);
        tape.append(e);
        return tape.length;
    }

    public int table(int n) {
        if (n < 0 || n > parser.reader.length) {
            return refused(BAD_NUMBER);
        }
        boolean read = parser.readAll(n);
        parser.reader.length = 0;
        lastFault = parser.faultNumber;
        lastPlace = parser.faultPlace;
        if (!read) {
            return refused(FAULTY);
        }
        lastTrouble = 0;
        board.takeFrom(parser.told);
        now.takeFrom(board.first);
        past.count = 0;
        imageCount = 0;
        seater.fresh = false;
        return board.people;
    }

    public int fault() {
        return lastFault;
    }

    public int where() {
        return lastTrouble == FAULTY ? lastPlace : NONE;
    }

    // ---- now

    public int seat(int p) {
        return noPerson(p) ? NONE : now.seatOf[p];
    }

    public int pair(int k, int what) {
        if (noPair(k)) {
            return NONE;
        }
        switch (what) {
            case 0: return now.one[k];
            case 1: return now.other[k];
            case 2: return now.years[k];
            case 3: return now.handle(k);
            case 4: return now.kind[k];
            case 5: return now.sawn[k];
            case 6: return canFeedNow(k) ? 1 : 0;
            case 7: return slopped(now.seatOf[now.one[k]], now.seatOf[now.other[k]], board.forkBits);
            default: return refused(NO_SUCH);
        }
    }

    public int pairOf(int p, int q) {
        return noTwo(p, q) ? NONE : now.find(p, q);
    }

    public int feeders(int p) {
        return noPerson(p) ? NONE : feederBits(p);
    }

    public int forks(int p, int q) {
        return noTwo(p, q) ? NONE : forksBetween(now.seatOf[p], now.seatOf[q], board.forkBits);
    }

    // ---- who is fed

    public int fed() {
        return noTable() ? NONE : fedBehind(0);
    }

    public int match() {
        if (noTable()) {
            return NONE;
        }
        settleNow();
        return scene.bestBits;
    }

    public int slops() {
        if (noTable()) {
            return NONE;
        }
        settleNow();
        return scene.bestSlops;
    }

    public int mate(int p) {
        if (noPerson(p)) {
            return NONE;
        }
        settleNow();
        int held = scene.held(p, scene.bestBits);
        return held < 0 ? NOTHING : now.partner(held, p);
    }

    public int starving() {
        if (noTable()) {
            return NONE;
        }
        settleNow();
        int bits = 0;
        for (int p = 0; p < board.people; p++) {
            if (scene.held(p, scene.bestBits) < 0) {
                bits |= 1 << p;
            }
        }
        return bits;
    }

    public int matches() {
        if (noTable()) {
            return NONE;
        }
        settleNow();
        return scene.list.count;
    }

    // ---- years to come

    public int handleIn(int k, int n) {
        if (noPair(k)) {
            return NONE;
        }
        return within(n, YEARS_AHEAD) ? now.handleBehind(k, n) : refused(BAD_NUMBER);
    }

    public int feedsIn(int k) {
        if (noPair(k)) {
            return NONE;
        }
        for (int n = 0; n <= YEARS_AHEAD; n++) {
            if (canFeedBehind(k, n)) {
                return n;
            }
        }
        return NOTHING;
    }

    public int feedsOften(int k) {
        if (noPair(k)) {
            return NONE;
        }
        int often = 0;
        for (int n = 0; n <= YEARS_AHEAD; n++) {
            if (canFeedBehind(k, n)) {
                often++;
            }
        }
        return often;
    }

    public int fedIn(int n) {
        if (noTable()) {
            return NONE;
        }
        return within(n, YEARS_AHEAD) ? fedBehind(n) : refused(BAD_NUMBER);
    }

    public int bestYear() {
        if (noTable()) {
            return NONE;
        }
        int best = 0;
        int most = -1;
        for (int n = 0; n <= YEARS_AHEAD; n++) {
            int count = fedBehind(n);
            if (count > most) {
                most = count;
                best = n;
            }
        }
        return best;
    }

    public int allIn() {
        if (noTable()) {
            return NONE;
        }
        for (int n = 0; n <= YEARS_AHEAD; n++) {
            if (board.people - fedBehind(n) <= 1) {
                return n;
            }
        }
        return NOTHING;
    }

    // ---- seats

    public int seating() {
        if (noTable()) {
            return NONE;
        }
        seater.search();
        return 2 * seater.pairsFed();
    }

    public int seatAt(int p) {
        if (noPerson(p)) {
            return NONE;
        }
        seater.search();
        return seater.bestRow[p];
    }

    public int seatSlops() {
        if (noTable()) {
            return NONE;
        }
        seater.search();
        return seater.pairsFed() * FED_WORTH - seater.bestWorth;
    }

    public int swapped(int p, int q) {
        return noTwo(p, q) ? NONE : fedSwapped(p, q);
    }

    public int bestSwap() {
        if (noTable()) {
            return NONE;
        }
        int best = NOTHING;
        int most = fedBehind(0);
        for (int p = 0; p < board.people; p++) {
            for (int q = p + 1; q < board.people; q++) {
                int count = fedSwapped(p, q);
                if (count > most) {
                    most = count;
                    best = 10 * p + q;
                }
            }
        }
        return best;
    }

    public int better(int p) {
        if (noPerson(p)) {
            return NONE;
        }
        int best = NOTHING;
        int most = fedBehind(0);
        for (int s = 0; s < board.seats; s++) {
            if (isFree(s)) {
                scene.lay();
                scene.seatOf[p] = s;
                scene.settle();
                if (scene.fedCount() > most) {
                    most = scene.fedCount();
                    best = s;
                }
            }
        }
        return best;
    }

    public int forkAt() {
        if (noTable()) {
            return NONE;
        }
        int best = NOTHING;
        int least = 0;
        for (int s = 0; s < board.seats; s++) {
            if (!has(board.forkBits, s)) {
                scene.lay();
                scene.forkBits |= 1 << s;
                scene.settle();
                if (best == NOTHING || scene.bestSlops < least) {
                    least = scene.bestSlops;
                    best = s;
                }
            }
        }
        return best;
    }

    // ---- saws, acquaintances, who would leave

    public int saws() {
        if (noTable()) {
            return NONE;
        }
        chooseSaws();
        return choice.leastCost;
    }

    public int sawsOf(int k) {
        if (noPair(k)) {
            return NONE;
        }
        chooseSaws();
        if (choice.leastCost < 0) {
            return NOTHING;
        }
        return has(choice.leastBits, k) ? choice.cost[k] : 0;
    }

    public int meet(int n) {
        if (noTable()) {
            return NONE;
        }
        if (!within(n, YEARS_AHEAD)) {
            return refused(BAD_NUMBER);
        }
        chooseMeet(n);
        return choice.leastCost;
    }

    public int meetAt(int n) {
        if (noTable()) {
            return NONE;
        }
        if (!within(n, YEARS_AHEAD)) {
            return refused(BAD_NUMBER);
        }
        chooseMeet(n);
        return choice.leastCost < 0 ? NOTHING : choice.leastBits;
    }

    public int stable() {
        if (noTable()) {
            return NONE;
        }
        settleNow();
        int count = 0;
        for (int i = 0; i < scene.list.count; i++) {
            if (scene.noneLeaves(scene.list.bits[i])) {
                count++;
            }
        }
        return count;
    }

    public int stableAt(int i) {
        if (noTable()) {
            return NONE;
        }
        settleNow();
        int count = 0;
        for (int m = 0; m < scene.list.count; m++) {
            if (scene.noneLeaves(scene.list.bits[m])) {
                if (count == i) {
                    return scene.list.bits[m];
                }
                count++;
            }
        }
        return refused(NO_SUCH);
    }

    public int leaves() {
        if (noTable()) {
            return NONE;
        }
        settleNow();
        for (int k = 0; k < now.pairs; k++) {
            if (scene.wouldLeave(k, scene.bestBits)) {
                return k;
            }
        }
        return NOTHING;
    }

    // ---- unsure years

    public int fits() {
        if (noTable()) {
            return NONE;
        }
        fitter.collect();
        return fitter.count;
    }

    public int fitAt(int i) {
        if (noTable()) {
            return NONE;
        }
        fitter.collect();
        return i >= 0 && i < fitter.count ? fitter.sets[i] : refused(NO_SUCH);
    }

    public int could() {
        if (noTable()) {
            return NONE;
        }
        fitter.collect();
        int bits = 0;
        for (int i = 0; i < fitter.count; i++) {
            bits |= fitter.sets[i];
        }
        return bits;
    }

    public int surely() {
        if (noTable()) {
            return NONE;
        }
        fitter.collect();
        int bits = fitter.count == 0 ? 0 : (1 << board.unsure) - 1;
        for (int i = 0; i < fitter.count; i++) {
            bits &= fitter.sets[i];
        }
        return bits;
    }

    public int ask() {
        if (noTable()) {
            return NONE;
        }
        fitter.collect();
        return fitter.bestQuestion();
    }

    public int askLeaves() {
        if (noTable()) {
            return NONE;
        }
        fitter.collect();
        int question = fitter.bestQuestion();
        return question < 0 ? NOTHING : fitter.mostLeft(question);
    }

    public int judge() {
        if (noTable()) {
            return NONE;
        }
        for (int i = 0; i < board.tried; i++) {
            if (!fitter.isSo(i, 0)) {
                return i;
            }
        }
        return NOTHING;
    }

    // ---- saw or sit

    public int saw(int pride, boolean one, boolean other, boolean ofOther) {
        if (noTable()) {
            return NO_SHARE;
        }
        if (!within(pride, MOST_PRIDE)) {
            lastTrouble = BAD_NUMBER;
            return NO_SHARE;
        }
        return ofOther ? shareOf(pride, other, one) : shareOf(pride, one, other);
    }

    public int rests(int pride) {
        if (noTable()) {
            return NONE;
        }
        if (!within(pride, MOST_PRIDE)) {
            return refused(BAD_NUMBER);
        }
        int count = 0;
        for (int ways = 0; ways < 4; ways++) {
            if (isRest(pride, has(ways, 1), has(ways, 0))) {
                count++;
            }
        }
        return count;
    }

    public int rest(int pride) {
        if (noTable()) {
            return NONE;
        }
        if (!within(pride, MOST_PRIDE)) {
            return refused(BAD_NUMBER);
        }
        for (int ways = 0; ways < 4; ways++) {
            boolean one = has(ways, 1);
            boolean other = has(ways, 0);
            if (isRest(pride, one, other)) {
                return (one ? 10 : 0) + (other ? 1 : 0);
            }
        }
        return NOTHING;
    }

    // ---- quarrels

    public long odds(int k, int n, boolean lower) {
        if (noPair(k)) {
            return NONE;
        }
        if (!within(n, YEARS_OF_CHANCE)) {
            return refused(BAD_NUMBER);
        }
        return lowestTerm(expected(k, now.handle(k), n, false), hundredTo(n), lower);
    }

    public long mean(int k, int n, boolean lower) {
        if (noPair(k)) {
            return NONE;
        }
        if (!within(n, YEARS_OF_CHANCE)) {
            return refused(BAD_NUMBER);
        }
        if (now.handle(k) > LONGEST_MEANT) {
            return refused(NO_ROOM);
        }
        return lowestTerm(expected(k, now.handle(k), n, true), hundredTo(n), lower);
    }

    public int drawnHandle(int k, int seed, int n) {
        if (noPair(k)) {
            return NONE;
        }
        if (!within(seed, SEEDS - 1) || !within(n, YEARS_AHEAD)) {
            return refused(BAD_NUMBER);
        }
        draw(seed, n);
        return scene.handle[k];
    }

    public int drawnFed(int seed, int n) {
        if (noTable()) {
            return NONE;
        }
        if (!within(seed, SEEDS - 1) || !within(n, YEARS_AHEAD)) {
            return refused(BAD_NUMBER);
        }
        draw(seed, n);
        scene.settle();
        return scene.fedCount();
    }

    // ---- acts

    public int year() {
        if (noTable()) {
            return NONE;
        }
        if (now.gone >= MOST_YEARS_GONE) {
            return refused(NO_ROOM);
        }
        now.passYears(1);
        acted(YEAR_ACT, 0, 0);
        return fedBehind(0);
    }

    public int quarrel(int k) {
        if (noPair(k)) {
            return NONE;
        }
        int handle = now.handle(k);
        if (now.kind[k] == RINGED || handle == 0) {
            return refused(NOT_SO);
        }
        int inches = Math.min(board.sawInches, handle);
        now.sawn[k] += inches;
        acted(QUARREL_ACT, k, inches);
        return now.handle(k);
    }

    public int sit(int p, int seat) {
        if (noPerson(p)) {
            return NONE;
        }
        if (seat < 0 || seat >= board.seats) {
            return refused(BAD_NUMBER);
        }
        if (!isFree(seat)) {
            return refused(NOT_SO);
        }
        int left = now.seatOf[p];
        now.seatOf[p] = seat;
        acted(SIT_ACT, p, left);
        return left;
    }

    public int know(int p, int q) {
        if (noTwo(p, q)) {
            return NONE;
        }
        if (now.find(p, q) >= 0) {
            return refused(NOT_SO);
        }
        now.addPair(p, q, 0, PLAIN);
        acted(KNOW_ACT, 0, 0);
        return now.pairs - 1;
    }

    public boolean undo() {
        if (past.count == 0) {
            lastTrouble = NONE_THERE;
            return false;
        }
        lastTrouble = 0;
        takeBack(past.takeLatest());
        seater.fresh = false;
        return true;
    }

    public int image() {
        if (noTable()) {
            return NONE;
        }
        if (imageCount >= MOST_IMAGES) {
            return refused(NO_ROOM);
        }
        images[imageCount].takeFrom(now);
        imageCount++;
        return imageCount - 1;
    }

    public boolean back(int image) {
        if (image < 0 || image >= imageCount) {
            lastTrouble = NO_SUCH;
            return false;
        }
        lastTrouble = 0;
        now.takeFrom(images[image]);
        past.count = 0;
        seater.fresh = false;
        return true;
    }

    // ---- what is told

    public int led(int i) throws NoSuchElementException {
        int count = 0;
        for (int p = 0; p < board.people; p++) {
            if (feederBits(p) == 0) {
                if (count == i) {
                    return p;
                }
                count++;
            }
        }
        throw new NoSuchElementException();
    }

    public int size(int what) {
        switch (what) {
            case 0: return board.seats;
            case 1: return board.slack;
            case 2: return board.sawInches;
            case 3: return board.quarrelChance;
            case 4: return board.people;
            case 5: return Integer.bitCount(board.forkBits);
            case 6: return now.pairs;
            case 7: return board.unsure;
            case 8: return board.tried;
            case 9: return now.gone;
            case 10: return past.count;
            case 11: return imageCount;
            case 12: return parser.reader.length;
            default: return NONE;
        }
    }

    public int trouble() {
        return lastTrouble;
    }

    // ---- what refuses a call

    private int refused(int why) {
        lastTrouble = why;
        return NONE;
    }

    private boolean noTable() {
        return refuseUnless(board.people > 0);
    }

    private boolean noPerson(int p) {
        return refuseUnless(p >= 0 && p < board.people);
    }

    private boolean noTwo(int p, int q) {
        return refuseUnless(p >= 0 && p < board.people && q >= 0 && q < board.people && p != q);
    }

    private boolean noPair(int k) {
        return refuseUnless(k >= 0 && k < now.pairs);
    }

    private boolean refuseUnless(boolean there) {
        lastTrouble = there ? 0 : NO_SUCH;
        return !there;
    }

    private static boolean within(int number, int most) {
        return number >= 0 && number <= most;
    }

    // ---- how the answers are found

    private static boolean has(int bits, int bit) {
        return (bits >> bit & 1) == 1;
    }

    private static int sumOf(int bits, int[] row) {
        int sum = 0;
        for (int k = 0; k < row.length; k++) {
            if (has(bits, k)) {
                sum += row[k];
            }
        }
        return sum;
    }

    private static boolean reaches(int kind, int handle, int far, int slack) {
        return Math.abs(far - handle) <= slack
            || kind == HINGED && Math.abs(far - handle / 2) <= slack;
    }

    private static int forksBetween(int a, int b, int forkBits) {
        int belowHigh = (1 << Math.max(a, b)) - 1;
        int upToLow = (2 << Math.min(a, b)) - 1;
        return Integer.bitCount(forkBits & belowHigh & ~upToLow);
    }

    private static int slopped(int a, int b, int forkBits) {
        return Math.max(0, Math.abs(a - b) - 3 * forksBetween(a, b, forkBits));
    }

    private boolean canFeedNow(int k) {
        return canFeedBehind(k, 0);
    }

    private boolean canFeedBehind(int k, int n) {
        return reaches(now.kind[k], now.handleBehind(k, n), now.far(k), board.slack);
    }

    private int feederBits(int p) {
        int bits = 0;
        for (int k = 0; k < now.pairs; k++) {
            if (now.partner(k, p) >= 0 && canFeedNow(k)) {
                bits |= 1 << now.partner(k, p);
            }
        }
        return bits;
    }

    private void settleNow() {
        scene.lay();
        scene.settle();
    }

    private int fedBehind(int n) {
        scene.lay();
        scene.grow(n);
        scene.settle();
        return scene.fedCount();
    }

    private int fedSwapped(int p, int q) {
        scene.lay();
        scene.seatOf[p] = now.seatOf[q];
        scene.seatOf[q] = now.seatOf[p];
        scene.settle();
        return scene.fedCount();
    }

    private boolean isFree(int seat) {
        for (int p = 0; p < board.people; p++) {
            if (now.seatOf[p] == seat) {
                return false;
            }
        }
        return true;
    }

    private void chooseSaws() {
        choice.items = 0;
        for (int k = 0; k < now.pairs; k++) {
            choice.add(now.both(k), fewestInches(k), 1 << k);
        }
        choice.decide(board.people / 2);
    }

    private int fewestInches(int k) {
        int handle = now.handle(k);
        int reach = now.far(k) + board.slack;
        // Nothing longer than this can feed, so shorter cuts need not be tried.
        int longest = now.kind[k] == HINGED ? 2 * reach + 1 : reach;
        int least = Math.max(0, handle - longest);
        int most = now.kind[k] == RINGED ? 0 : handle;
        for (int inches = least; inches <= most; inches++) {
            if (reaches(now.kind[k], handle - inches, now.far(k), board.slack)) {
                return inches;
            }
        }
        return NONE;
    }

    private void chooseMeet(int n) {
        choice.items = 0;
        for (int a = 0; a < board.people; a++) {
            for (int b = a + 1; b < board.people; b++) {
                addTwo(a, b, n);
            }
        }
        choice.decide(board.people / 2);
    }

    private void addTwo(int a, int b, int n) {
        int both = 1 << a | 1 << b;
        int known = now.find(a, b);
        if (known >= 0) {
            choice.add(both, canFeedBehind(known, n) ? 0 : NONE, 0);
        } else {
            int far = Math.abs(now.seatOf[a] - now.seatOf[b]);
            choice.add(both, reaches(PLAIN, n, far, board.slack) ? 1 : NONE, 1 << choice.items);
        }
    }

    private static int shareOf(int pride, boolean saws, boolean otherSaws) {
        if (saws) {
            return otherSaws ? -pride : 0;
        }
        return otherSaws ? 4 : 2;
    }

    private static boolean isRest(int pride, boolean one, boolean other) {
        return shareOf(pride, one, other) >= shareOf(pride, !one, other)
            && shareOf(pride, other, one) >= shareOf(pride, !other, one);
    }

    /** What is expected behind so many years (the handle, or 1 if it feeds), times 100 to their power. */
    private long expected(int k, int handle, int left, boolean ofHandle) {
        if (left <= 0) {
            if (ofHandle) {
                return handle;
            }
            return reaches(now.kind[k], handle, now.far(k), board.slack) ? 1 : 0;
        }
        int longer = now.kind[k] == RINGED ? handle : handle + 1;
        int sawn = now.kind[k] == RINGED ? handle : longer - Math.min(board.sawInches, longer);
        long likely = board.quarrelChance;
        return likely * expected(k, sawn, left - 1, ofHandle)
            + (HUNDRED - likely) * expected(k, longer, left - 1, ofHandle);
    }

    private static long hundredTo(int n) {
        long power = 1;
        for (int i = 0; i < n; i++) {
            power *= HUNDRED;
        }
        return power;
    }

    private static long lowestTerm(long upper, long lower, boolean wantsLower) {
        long divisor = lower;
        long rest = upper;
        // Numbers below 2 to the 63rd take fewer steps than this.
        for (int i = 0; i < 200 && rest != 0; i++) {
            long next = divisor % rest;
            divisor = rest;
            rest = next;
        }
        if (divisor == 0) {
            return 0;
        }
        return wantsLower ? lower / divisor : upper / divisor;
    }

    private void draw(int seed, int n) {
        scene.lay();
        int drawn = seed;
        for (int i = 0; i < n; i++) {
            for (int k = 0; k < now.pairs; k++) {
                drawn = (75 * drawn + 74) % SEEDS;
                if (now.kind[k] != RINGED) {
                    int longer = scene.handle[k] + 1;
                    boolean quarrels = drawn % HUNDRED < board.quarrelChance;
                    scene.handle[k] = quarrels ? longer - Math.min(board.sawInches, longer) : longer;
                }
            }
        }
    }

    private void acted(int act, int whom, int amount) {
        past.keep(act, whom, amount);
        seater.fresh = false;
    }

    private void takeBack(int slot) {
        int whom = past.whom[slot];
        switch (past.act[slot]) {
            case YEAR_ACT:
                now.passYears(-1);
                break;
            case QUARREL_ACT:
                now.sawn[whom] -= past.amount[slot];
                break;
            case SIT_ACT:
                now.seatOf[whom] = past.amount[slot];
                break;
            default:
                now.pairs--;
                break;
        }
    }

    /** Who sits where and how the pairs stand: all that acts change. */
    private static final class Now {
        final int[] seatOf = new int[MOST_PEOPLE];
        final int[] one = new int[MOST_PAIRS];
        final int[] other = new int[MOST_PAIRS];
        final int[] kind = new int[MOST_PAIRS];
        final int[] years = new int[MOST_PAIRS];
        final int[] sawn = new int[MOST_PAIRS];
        int pairs;
        int gone;

        void takeFrom(Now from) {
            System.arraycopy(from.seatOf, 0, seatOf, 0, MOST_PEOPLE);
            System.arraycopy(from.one, 0, one, 0, MOST_PAIRS);
            System.arraycopy(from.other, 0, other, 0, MOST_PAIRS);
            System.arraycopy(from.kind, 0, kind, 0, MOST_PAIRS);
            System.arraycopy(from.years, 0, years, 0, MOST_PAIRS);
            System.arraycopy(from.sawn, 0, sawn, 0, MOST_PAIRS);
            pairs = from.pairs;
            gone = from.gone;
        }

        void addPair(int p, int q, int knownYears, int sort) {
            if (pairs >= MOST_PAIRS) {
                return;
            }
            one[pairs] = p;
            other[pairs] = q;
            kind[pairs] = sort;
            years[pairs] = knownYears;
            sawn[pairs] = 0;
            pairs++;
        }

        int find(int p, int q) {
            for (int k = 0; k < pairs; k++) {
                if (p != q && partner(k, p) == q) {
                    return k;
                }
            }
            return NOTHING;
        }

        /** The one with whom a person makes this pair; NOTHING if the person isn't of it. */
        int partner(int k, int p) {
            if (one[k] == p) {
                return other[k];
            }
            return other[k] == p ? one[k] : NOTHING;
        }

        int both(int k) {
            return 1 << one[k] | 1 << other[k];
        }

        int handle(int k) {
            return handleBehind(k, 0);
        }

        int handleBehind(int k, int n) {
            return kind[k] == RINGED ? 1 : Math.max(0, years[k] - sawn[k]) + n;
        }

        int far(int k) {
            return Math.abs(seatOf[one[k]] - seatOf[other[k]]);
        }

        void passYears(int n) {
            for (int k = 0; k < pairs; k++) {
                years[k] += n;
            }
            gone += n;
        }
    }

    /** What was told, and how all stood at first. */
    private static final class Board {
        final Now first = new Now();
        final int[] unsurePair = new int[MOST_UNSURE];
        final int[] unsureYears = new int[MOST_UNSURE];
        final int[] triedPair = new int[MOST_TRIED];
        int seats;
        int slack;
        int sawInches;
        int quarrelChance;
        int people;
        int forkBits;
        int unsure;
        int tried;
        int triedFedBits;

        void clear() {
            first.pairs = 0;
            first.gone = 0;
            seats = 0;
            people = 0;
            forkBits = 0;
            unsure = 0;
            tried = 0;
            triedFedBits = 0;
        }

        void takeFrom(Board from) {
            first.takeFrom(from.first);
            System.arraycopy(from.unsurePair, 0, unsurePair, 0, MOST_UNSURE);
            System.arraycopy(from.unsureYears, 0, unsureYears, 0, MOST_UNSURE);
            System.arraycopy(from.triedPair, 0, triedPair, 0, MOST_TRIED);
            seats = from.seats;
            slack = from.slack;
            sawInches = from.sawInches;
            quarrelChance = from.quarrelChance;
            people = from.people;
            forkBits = from.forkBits;
            unsure = from.unsure;
            tried = from.tried;
            triedFedBits = from.triedFedBits;
        }
    }

    /** The tape and its tokens, one at a time. */
    private static final class Reader {
        static final int END = 0;
        static final int WORD = 1;
        static final int WHOLE = 2;
        static final int MARK = 3;
        static final int NO_TOKEN = 4;
        static final int LONGEST_WORD = 8;
        static final int LONGEST_WHOLE = 3;

        final byte[] tape = new byte[TAPE_BYTES];
        int length;
        int end;
        int next;
        int sort;
        int start;
        int value;
        /** The bytes of a WORD, which are eight at most; 0 for any other token. */
        long word;

        void append(int number) {
            for (int shift = 24; shift >= 0; shift -= 8) {
                if (length < TAPE_BYTES) {
                    tape[length] = (byte) (number >> shift);
                    length++;
                }
            }
        }

        void begin(int n) {
            end = Math.min(n, TAPE_BYTES);
            next = 0;
            step();
        }

        void step() {
            next = skip(next, ' ', ' ');
            start = next;
            value = 0;
            word = 0;
            int first = start < end ? tape[start] : 0;
            if (start >= end) {
                sort = END;
            } else if (first == ';') {
                sort = MARK;
                next = start + 1;
            } else if (first >= '0' && first <= '9') {
                next = skip(start, '0', '9');
                takeWhole();
            } else if (first >= 'a' && first <= 'z') {
                next = skip(start, 'a', 'z');
                takeWord();
            } else {
                sort = NO_TOKEN;
            }
        }

        private int skip(int from, char low, char high) {
            int place = from;
            while (place < end && tape[place] >= low && tape[place] <= high) {
                place++;
            }
            return place;
        }

        private void takeWhole() {
            sort = next - start <= LONGEST_WHOLE ? WHOLE : NO_TOKEN;
            for (int i = start; i < next && sort == WHOLE; i++) {
                value = value * 10 + (tape[i] - '0');
            }
        }

        private void takeWord() {
            sort = next - start <= LONGEST_WORD ? WORD : NO_TOKEN;
            for (int i = start; i < next && sort == WORD; i++) {
                word = word << 8 | tape[i];
            }
        }
    }

    /** Reads the lines of a table into a board of its own, up to the first fault. */
    private static final class Parser {
        static final int FORM = 1;
        static final int UNTOLD = 2;
        static final int AGAIN = 3;
        static final int OUT_OF_BOUNDS = 4;
        static final int MANY = 5;
        static final int LACKS = 6;

        // What a word is: one that begins a line, one that may name somebody, or none at all.
        static final int TABLE_LINE = 0;
        static final int PERSON_LINE = 1;
        static final int FORK_LINE = 2;
        static final int KNOWN_LINE = 3;
        static final int UNSURE_LINE = 4;
        static final int TRIED_LINE = 5;
        static final int NAME = 6;
        static final int NO_WORD = 7;

        // Words, as the reader tells them: by their bytes.
        static final long TABLE = 0x7461626c65L;
        static final long SEATS = 0x7365617473L;
        static final long SLACK = 0x736c61636bL;
        static final long SAW = 0x736177L;
        static final long QUARREL = 0x7175617272656cL;
        static final long PERSON = 0x706572736f6eL;
        static final long AT = 0x6174L;
        static final long FORK = 0x666f726bL;
        static final long KNOWN = 0x6b6e6f776eL;
        static final long YEARS = 0x7965617273L;
        static final long PLAIN_WORD = 0x706c61696eL;
        static final long HINGED_WORD = 0x68696e676564L;
        static final long RINGED_WORD = 0x72696e676564L;
        static final long UNSURE = 0x756e73757265L;
        static final long TRIED = 0x7472696564L;
        static final long FED = 0x666564L;
        static final long STARVED = 0x73746172766564L;

        final Reader reader = new Reader();
        final Board told = new Board();
        final long[] names = new long[MOST_PEOPLE];
        int faultNumber;
        int faultPlace;

        boolean readAll(int n) {
            told.clear();
            faultNumber = 0;
            faultPlace = NONE;
            reader.begin(n);
            // Each line takes a byte at least.
            for (int line = 0; line <= n; line++) {
                if (!readLine()) {
                    return false;
                }
                if (reader.sort == Reader.END) {
                    return told.people > 0 || wrong(LACKS);
                }
                if (reader.sort != Reader.MARK) {
                    return wrong(FORM);
                }
                reader.step();
            }
            return wrong(FORM);
        }

        private boolean wrong(int number) {
            faultNumber = number;
            faultPlace = reader.start;
            return false;
        }

        private int useOfWord() {
            long word = reader.word;
            if (word == TABLE) {
                return TABLE_LINE;
            }
            if (word == PERSON) {
                return PERSON_LINE;
            }
            if (word == FORK) {
                return FORK_LINE;
            }
            if (word == KNOWN) {
                return KNOWN_LINE;
            }
            if (word == UNSURE) {
                return UNSURE_LINE;
            }
            if (word == TRIED) {
                return TRIED_LINE;
            }
            return word != 0 ? NAME : NO_WORD;
        }

        private boolean readLine() {
            int line = useOfWord();
            if (line >= NAME) {
                return wrong(FORM);
            }
            boolean hasTable = told.seats > 0;
            if (line == TABLE_LINE && hasTable) {
                return wrong(AGAIN);
            }
            if (line != TABLE_LINE && !hasTable) {
                return wrong(LACKS);
            }
            if (isFull(line)) {
                return wrong(MANY);
            }
            reader.step();
            switch (line) {
                case TABLE_LINE: return tableLine();
                case PERSON_LINE: return personLine();
                case FORK_LINE: return forkLine();
                case KNOWN_LINE: return knownLine();
                case UNSURE_LINE: return unsureLine();
                default: return triedLine();
            }
        }

        private boolean isFull(int line) {
            switch (line) {
                case PERSON_LINE: return told.people >= MOST_PEOPLE;
                case FORK_LINE: return Integer.bitCount(told.forkBits) >= MOST_FORKS;
                case KNOWN_LINE: return told.first.pairs >= MOST_PAIRS;
                case UNSURE_LINE: return told.unsure >= MOST_UNSURE;
                case TRIED_LINE: return told.tried >= MOST_TRIED;
                default: return false;
            }
        }

        private boolean tableLine() {
            int seats = amount(SEATS, 2, MOST_SEATS);
            int slack = seats < 0 ? NONE : amount(SLACK, 0, MOST_SLACK);
            int inches = slack < 0 ? NONE : amount(SAW, 1, MOST_SAW);
            int chance = inches < 0 ? NONE : amount(QUARREL, 0, HUNDRED);
            if (chance < 0) {
                return false;
            }
            told.seats = seats;
            told.slack = slack;
            told.sawInches = inches;
            told.quarrelChance = chance;
            return true;
        }

        private boolean personLine() {
            if (useOfWord() != NAME) {
                return wrong(FORM);
            }
            if (personNamed(reader.word) >= 0) {
                return wrong(AGAIN);
            }
            names[told.people] = reader.word;
            reader.step();
            if (!isKeyword(AT)) {
                return false;
            }
            reader.step();
            if (!isWhole(0, told.seats - 1)) {
                return false;
            }
            if (isTaken(reader.value)) {
                return wrong(AGAIN);
            }
            told.first.seatOf[told.people] = reader.value;
            told.people++;
            reader.step();
            return true;
        }

        private boolean forkLine() {
            if (!isWhole(0, told.seats - 1)) {
                return false;
            }
            if (has(told.forkBits, reader.value)) {
                return wrong(AGAIN);
            }
            told.forkBits |= 1 << reader.value;
            reader.step();
            return true;
        }

        private boolean knownLine() {
            int p = personTold();
            if (p < 0) {
                return false;
            }
            reader.step();
            int q = personTold();
            if (q < 0) {
                return false;
            }
            if (p == q || told.first.find(p, q) >= 0) {
                return wrong(AGAIN);
            }
            reader.step();
            int years = amount(YEARS, 0, MOST_TOLD_YEARS);
            if (years < 0) {
                return false;
            }
            int kind = kindOfWord();
            if (kind < 0) {
                return wrong(FORM);
            }
            told.first.addPair(p, q, years, kind);
            reader.step();
            return true;
        }

        private boolean unsureLine() {
            int k = pairTold(told.unsurePair, told.unsure);
            if (k < 0 || !isWhole(0, MOST_TOLD_YEARS)) {
                return false;
            }
            told.unsurePair[told.unsure] = k;
            told.unsureYears[told.unsure] = reader.value;
            told.unsure++;
            reader.step();
            return true;
        }

        private boolean triedLine() {
            int k = pairTold(told.triedPair, told.tried);
            if (k < 0) {
                return false;
            }
            if (reader.word != FED && reader.word != STARVED) {
                return wrong(FORM);
            }
            told.triedPair[told.tried] = k;
            if (reader.word == FED) {
                told.triedFedBits |= 1 << told.tried;
            }
            told.tried++;
            reader.step();
            return true;
        }

        /** The pair of the next two people, who may not be among these yet; below 0 by a fault. */
        private int pairTold(int[] already, int count) {
            int p = personTold();
            if (p < 0) {
                return NONE;
            }
            reader.step();
            int q = personTold();
            if (q < 0) {
                return NONE;
            }
            int k = told.first.find(p, q);
            if (k < 0) {
                wrong(UNTOLD);
                return NONE;
            }
            for (int i = 0; i < count; i++) {
                if (already[i] == k) {
                    wrong(AGAIN);
                    return NONE;
                }
            }
            reader.step();
            return k;
        }

        private int personTold() {
            if (useOfWord() != NAME) {
                wrong(FORM);
                return NONE;
            }
            int p = personNamed(reader.word);
            if (p < 0) {
                wrong(UNTOLD);
            }
            return p;
        }

        private int personNamed(long name) {
            for (int p = 0; p < told.people; p++) {
                if (names[p] == name) {
                    return p;
                }
            }
            return NONE;
        }

        private boolean isTaken(int seat) {
            for (int p = 0; p < told.people; p++) {
                if (told.first.seatOf[p] == seat) {
                    return true;
                }
            }
            return false;
        }

        private int kindOfWord() {
            if (reader.word == PLAIN_WORD) {
                return PLAIN;
            }
            if (reader.word == HINGED_WORD) {
                return HINGED;
            }
            return reader.word == RINGED_WORD ? RINGED : NONE;
        }

        private boolean isKeyword(long word) {
            return reader.word == word || wrong(FORM);
        }

        private boolean isWhole(int least, int most) {
            if (reader.sort != Reader.WHOLE) {
                return wrong(FORM);
            }
            return reader.value >= least && reader.value <= most || wrong(OUT_OF_BOUNDS);
        }

        /** The number behind this word; below 0 by a fault. */
        private int amount(long word, int least, int most) {
            if (!isKeyword(word)) {
                return NONE;
            }
            reader.step();
            if (!isWhole(least, most)) {
                return NONE;
            }
            int value = reader.value;
            reader.step();
            return value;
        }
    }

    /** All sets of allowed items no two of which share a person, the least bits first. */
    private static final class MatchList {
        final int[] bits = new int[MOST_MATCHES];
        int count;

        /** Five people make two pairs at most, so no set has a third item. */
        void fill(int allowed, int[] both, int items) {
            count = 0;
            add(0);
            for (int high = 0; high < items; high++) {
                if (has(allowed, high)) {
                    add(1 << high);
                    for (int low = 0; low < high; low++) {
                        if (has(allowed, low) && (both[low] & both[high]) == 0) {
                            add(1 << high | 1 << low);
                        }
                    }
                }
            }
        }

        private void add(int set) {
            if (count < MOST_MATCHES) {
                bits[count] = set;
                count++;
            }
        }
    }

    /** A table as it is or is thought of: seats, handles, forks, and who is fed then. */
    private static final class Scene {
        final Board board;
        final Now now;
        final int[] seatOf = new int[MOST_PEOPLE];
        final int[] handle = new int[MOST_PAIRS];
        final int[] both = new int[MOST_PAIRS];
        final int[] slopOf = new int[MOST_PAIRS];
        final MatchList list = new MatchList();
        int forkBits;
        int canBits;
        int bestBits;
        int bestSlops;

        Scene(Board told, Now standing) {
            board = told;
            now = standing;
        }

        void lay() {
            System.arraycopy(now.seatOf, 0, seatOf, 0, MOST_PEOPLE);
            for (int k = 0; k < now.pairs; k++) {
                handle[k] = now.handle(k);
            }
            forkBits = board.forkBits;
        }

        void grow(int n) {
            for (int k = 0; k < now.pairs; k++) {
                handle[k] = now.handleBehind(k, n);
            }
        }

        void settle() {
            weigh();
            list.fill(canBits, both, now.pairs);
            bestBits = 0;
            bestSlops = 0;
            int most = 0;
            for (int i = 0; i < list.count; i++) {
                int bits = list.bits[i];
                int count = Integer.bitCount(bits);
                int slop = count < most ? bestSlops : sumOf(bits, slopOf);
                // The list goes up by bits: of like ones the first stays.
                if (count > most || count == most && slop < bestSlops) {
                    most = count;
                    bestBits = bits;
                    bestSlops = slop;
                }
            }
        }

        private void weigh() {
            canBits = 0;
            for (int k = 0; k < now.pairs; k++) {
                int a = seatOf[now.one[k]];
                int b = seatOf[now.other[k]];
                both[k] = now.both(k);
                slopOf[k] = slopped(a, b, forkBits);
                if (reaches(now.kind[k], handle[k], Math.abs(a - b), board.slack)) {
                    canBits |= 1 << k;
                }
            }
        }

        int fedCount() {
            return 2 * Integer.bitCount(bestBits);
        }

        /** The pair of a match that a person is in; NOTHING without one. */
        int held(int p, int match) {
            for (int k = 0; k < now.pairs; k++) {
                if (has(match, k) && now.partner(k, p) >= 0) {
                    return k;
                }
            }
            return NOTHING;
        }

        boolean noneLeaves(int match) {
            for (int k = 0; k < now.pairs; k++) {
                if (wouldLeave(k, match)) {
                    return false;
                }
            }
            return true;
        }

        boolean wouldLeave(int k, int match) {
            return has(canBits, k) && !has(match, k)
                && wouldRather(now.one[k], k, match) && wouldRather(now.other[k], k, match);
        }

        private boolean wouldRather(int p, int k, int match) {
            int held = held(p, match);
            if (held < 0) {
                return true;
            }
            if (handle[k] != handle[held]) {
                return handle[k] > handle[held];
            }
            return now.partner(k, p) < now.partner(held, p);
        }
    }

    /** Of some items, each of two people, so many that share nobody, of the least cost. */
    private static final class Choice {
        final int[] both = new int[MOST_PAIRS];
        final int[] cost = new int[MOST_PAIRS];
        final int[] bit = new int[MOST_PAIRS];
        final MatchList list = new MatchList();
        int items;
        int leastCost;
        int leastBits;

        /** A cost below 0 says that the item can't be had. */
        void add(int people, int price, int bits) {
            if (items < MOST_PAIRS) {
                both[items] = people;
                cost[items] = price;
                bit[items] = bits;
                items++;
            }
        }

        void decide(int need) {
            int allowed = 0;
            for (int i = 0; i < items; i++) {
                if (cost[i] >= 0) {
                    allowed |= 1 << i;
                }
            }
            list.fill(allowed, both, items);
            leastCost = NOTHING;
            leastBits = 0;
            for (int i = 0; i < list.count; i++) {
                if (Integer.bitCount(list.bits[i]) == need) {
                    consider(sumOf(list.bits[i], cost), sumOf(list.bits[i], bit));
                }
            }
        }

        private void consider(int price, int bits) {
            if (leastCost < 0 || price < leastCost || price == leastCost && bits < leastBits) {
                leastCost = price;
                leastBits = bits;
            }
        }
    }

    /** Seeks the best seats for all, person by person, leaving rows that can't be better any more. */
    private static final class Seater {
        final Board board;
        final Now now;
        final int[] bestRow = new int[MOST_PEOPLE];
        final int[] row = new int[MOST_PEOPLE];
        final int[] pairAt = new int[MOST_PEOPLE * MOST_PEOPLE];
        final int[] hope = new int[MOST_PEOPLE * MOST_PEOPLE];
        final int[] hopeAt = new int[MOST_PEOPLE * MOST_PEOPLE * MOST_SEATS];
        final int[] slopAt = new int[MOST_SEATS * MOST_SEATS];
        final int[] farBits = new int[MOST_PAIRS];
        final int[] gain = new int[MOST_PEOPLE];
        final int[] worth = new int[1 << MOST_PEOPLE];
        int bestWorth;
        boolean fresh;

        Seater(Board told, Now standing) {
            board = told;
            now = standing;
        }

        void search() {
            if (fresh) {
                return;
            }
            fresh = true;
            setReaches();
            setSlops();
            setHopes();
            worth[0] = 0;
            bestWorth = -1;
            place(0, 0);
        }

        /** Less than a pair's worth is slopped by all, so it is rounded up. */
        int pairsFed() {
            return (bestWorth + FED_WORTH - 1) / FED_WORTH;
        }

        private void setReaches() {
            for (int k = 0; k < now.pairs; k++) {
                farBits[k] = 0;
                for (int far = 1; far < board.seats; far++) {
                    if (reaches(now.kind[k], now.handle(k), far, board.slack)) {
                        farBits[k] |= 1 << far;
                    }
                }
            }
            for (int p = 0; p < board.people; p++) {
                for (int q = 0; q < p; q++) {
                    pairAt[q * MOST_PEOPLE + p] = now.find(q, p);
                }
            }
        }

        private void setSlops() {
            for (int a = 0; a < board.seats; a++) {
                for (int b = 0; b < board.seats; b++) {
                    slopAt[a * MOST_SEATS + b] = slopped(a, b, board.forkBits);
                }
            }
        }

        private void setHopes() {
            for (int p = 0; p < board.people; p++) {
                for (int q = 0; q < p; q++) {
                    int two = q * MOST_PEOPLE + p;
                    hope[two] = 0;
                    for (int s = 0; s < board.seats; s++) {
                        hopeAt[two * MOST_SEATS + s] = hopeFrom(q, p, s);
                        hope[two] = Math.max(hope[two], hopeAt[two * MOST_SEATS + s]);
                    }
                }
            }
        }

        /** The most that two can be worth if q sits there. */
        private int hopeFrom(int q, int p, int seat) {
            int most = 0;
            for (int s = 0; s < board.seats; s++) {
                if (s != seat) {
                    most = Math.max(most, gainOf(q, p, seat, s));
                }
            }
            return most;
        }

        /** What two are worth at two seats; 0 if they can't feed there. */
        private int gainOf(int q, int p, int a, int b) {
            int k = pairAt[q * MOST_PEOPLE + p];
            if (k < 0 || !has(farBits[k], Math.abs(a - b))) {
                return 0;
            }
            return FED_WORTH - slopAt[a * MOST_SEATS + b];
        }

        private void place(int p, int taken) {
            if (hopedBehind(p) <= bestWorth) {
                return;
            }
            if (p >= board.people) {
                bestWorth = worth[(1 << board.people) - 1];
                System.arraycopy(row, 0, bestRow, 0, MOST_PEOPLE);
                return;
            }
            for (int s = 0; s < board.seats; s++) {
                if (!has(taken, s)) {
                    row[p] = s;
                    for (int q = 0; q < p; q++) {
                        gain[q] = gainOf(q, p, row[q], s);
                    }
                    spread(p);
                    place(p + 1, taken | 1 << s);
                }
            }
        }

        /** The most that all could be worth if those from p on could each be where it suits best. */
        private int hopedBehind(int p) {
            for (int later = p; later < board.people; later++) {
                for (int q = 0; q < later; q++) {
                    int two = q * MOST_PEOPLE + later;
                    gain[q] = q < p ? hopeAt[two * MOST_SEATS + row[q]] : hope[two];
                }
                spread(later);
            }
            return worth[(1 << board.people) - 1];
        }

        /** From what the people ahead of p are worth, set by set, what they are with p. */
        private void spread(int p) {
            int top = 1 << p;
            // With the last person only the set of all counts.
            int from = p == board.people - 1 ? top - 1 : 0;
            for (int set = from; set < top; set++) {
                int most = worth[set];
                for (int q = 0; q < p; q++) {
                    if (has(set, q) && gain[q] > 0) {
                        most = Math.max(most, worth[set ^ 1 << q] + gain[q]);
                    }
                }
                worth[set | top] = most;
            }
        }
    }

    /** Which of the unsure years fit what was tried. */
    private static final class Fitter {
        final Board board;
        final int[] sets = new int[MOST_FITS];
        int count;

        Fitter(Board told) {
            board = told;
        }

        void collect() {
            count = 0;
            for (int set = 0; set < 1 << board.unsure && count < MOST_FITS; set++) {
                if (isFit(set)) {
                    sets[count] = set;
                    count++;
                }
            }
        }

        private boolean isFit(int set) {
            for (int i = 0; i < board.tried; i++) {
                if (!isSo(i, set)) {
                    return false;
                }
            }
            return true;
        }

        /** Whether what was tried came so if the unsure pairs of the set had their other years. */
        boolean isSo(int i, int set) {
            Now first = board.first;
            int k = board.triedPair[i];
            int handle = first.handle(k);
            for (int u = 0; u < board.unsure; u++) {
                if (has(set, u) && board.unsurePair[u] == k && first.kind[k] != RINGED) {
                    handle = board.unsureYears[u];
                }
            }
            return reaches(first.kind[k], handle, first.far(k), board.slack) == has(board.triedFedBits, i);
        }

        int bestQuestion() {
            int best = NOTHING;
            int least = 0;
            for (int u = 0; u < board.unsure && count > 0; u++) {
                int left = mostLeft(u);
                if (best < 0 || left < least) {
                    best = u;
                    least = left;
                }
            }
            return best;
        }

        int mostLeft(int u) {
            int with = 0;
            for (int i = 0; i < count; i++) {
                if (has(sets[i], u)) {
                    with++;
                }
            }
            return Math.max(with, count - with);
        }
    }

    /** The latest acts, each with what undoes it. */
    private static final class Past {
        final int[] act = new int[MOST_ACTS];
        final int[] whom = new int[MOST_ACTS];
        final int[] amount = new int[MOST_ACTS];
        int next;
        int count;

        void keep(int what, int who, int much) {
            act[next] = what;
            whom[next] = who;
            amount[next] = much;
            next = (next + 1) % MOST_ACTS;
            count = Math.min(count + 1, MOST_ACTS);
        }

        int takeLatest() {
            next = (next + MOST_ACTS - 1) % MOST_ACTS;
            count--;
            return next;
        }
    }
}
