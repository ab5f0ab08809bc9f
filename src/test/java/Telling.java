import java.util.ArrayList;
import java.util.List;

/**
 * All that can be told of an object, in parts, since an object is used for 512 calls at most. The parts
 * use it up: they undo, go back to images, and read the tape.
 */
final class Telling {
    static final int PARTS = 5;

    private final SpoonTable x;
    private final List<String> rows = new ArrayList<>();

    private Telling(SpoonTable x) {
        this.x = x;
    }

    static List<String> of(SpoonTable x, int part) {
        Telling t = new Telling(x);
        switch (part) {
            case 0: t.now(); break;
            case 1: t.found(); break;
            case 2: t.undone(); break;
            case 3: t.imaged(); break;
            default: t.taped(); break;
        }
        return t.rows;
    }

    private void row(String call, long answer) {
        rows.add(call + " = " + answer);
    }

    private void sizes() {
        for (int what = 0; what <= 12; what++) {
            row("size(" + what + ")", x.size(what));
        }
    }

    private void seats() {
        int people = x.size(4);
        for (int p = 0; p < people; p++) {
            row("seat(" + p + ")", x.seat(p));
        }
    }

    private void pairs(int... whats) {
        int pairs = x.size(6);
        row("size(6)", pairs);
        for (int k = 0; k < pairs; k++) {
            for (int what : whats) {
                row("pair(" + k + ", " + what + ")", x.pair(k, what));
            }
        }
    }

    private void now() {
        row("fault()", x.fault());
        sizes();
        seats();
        pairs(0, 1, 2, 3, 4, 5, 6, 7);
    }

    private void found() {
        row("match()", x.match());
        row("slops()", x.slops());
        row("matches()", x.matches());
        row("bestYear()", x.bestYear());
        row("seating()", x.seating());
        row("seatSlops()", x.seatSlops());
        row("bestSwap()", x.bestSwap());
        row("forkAt()", x.forkAt());
        row("saws()", x.saws());
        row("meetAt(3)", x.meetAt(3));
        row("stableAt(0)", x.stableAt(0));
        row("leaves()", x.leaves());
        row("fits()", x.fits());
        row("could()", x.could());
        row("askLeaves()", x.askLeaves());
        row("judge()", x.judge());
        row("drawnFed(99, 60)", x.drawnFed(99, 60));
        row("led(0)", Check.led(x, 0));
        for (int p = 0; p < x.size(4); p++) {
            row("seatAt(" + p + ")", x.seatAt(p));
            row("better(" + p + ")", x.better(p));
        }
        for (int k = 0; k < x.size(6); k++) {
            row("odds(" + k + ", 8)", x.odds(k, 8, false));
            row("mean(" + k + ", 8)", x.mean(k, 8, false));
        }
    }

    private void undone() {
        // One more than are kept.
        for (int i = 0; i < 17 && x.undo(); i++) {
            row("undo(), size(10)", x.size(10));
            row("size(9)", x.size(9));
            seats();
            pairs(3);
        }
    }

    private void imaged() {
        for (int i = 0; i < 3; i++) {
            row("back(" + i + ")", x.back(i) ? 1 : 0);
            sizes();
            seats();
            pairs(2, 5);
        }
    }

    private void taped() {
        row("table(size(12))", x.table(x.size(12)));
        row("where()", x.where());
        row("fault()", x.fault());
        sizes();
    }
}
