import java.util.ArrayList;
import java.util.List;

/**
 * All that can be seen of an object, as rows of calls with their answers. Rooms, partners and sheets
 * are seen only by acts that change them, so an object is looked at once, when its run is over. How
 * many findings there were is left out.
 */
final class Sight {
    private final LessonSpiral x;
    private final List<String> rows = new ArrayList<>();

    private Sight(LessonSpiral x) {
        this.x = x;
    }

    /** Some 350 calls. */
    static List<String> of(LessonSpiral x) {
        Sight sight = new Sight(x);
        sight.topics();
        sight.plan();
        sight.pupils();
        sight.weeks();
        for (int s = 0; s < 4; s++) {
            sight.sheet(s);
        }
        sight.bits();
        return sight.rows;
    }

    /** What undo() brings back, step by step; at most some 260 calls. */
    static List<String> undone(LessonSpiral x) {
        Sight sight = new Sight(x);
        int left = 1;
        for (int i = 0; i < 26 && left >= 0; i++) {
            left = x.undo();
            sight.row("undo", left);
            sight.shortly();
        }
        return sight.rows;
    }

    private void row(String call, int answer) {
        rows.add(call + " = " + answer);
    }

    private void shortly() {
        for (int what = 0; what < 3; what++) {
            row("told " + what, x.told(what));
        }
        row("fault", x.fault());
        row("evenness", x.evenness());
        row("met", x.met(false));
        row("late", x.late(3, true));
        row("drift", x.drift(5));
    }

    private void topics() {
        for (int t = 0; t < x.told(0); t++) {
            for (int what = 0; what < 8; what++) {
                row("of " + t + " " + what, x.of(t, what));
            }
            for (int w = 0; w < 6; w++) {
                row("due " + t + " " + w, x.due(t, w));
            }
        }
    }

    private void plan() {
        shortly();
        row("best", x.best(false));
        row("plans", x.plans());
        row("least", x.least(false));
        for (int w = 0; w < 6; w++) {
            row("load " + w, x.load(w));
        }
    }

    private void pupils() {
        for (int w = 0; w < 6; w++) {
            row("late " + w, x.late(w, false));
            row("drift " + w, x.drift(w));
        }
        for (int standard = 0; standard < 16; standard++) {
            row("only " + standard, x.only(standard));
        }
        for (int t = 0; t < x.told(0); t++) {
            row("partner " + t, x.partner(t, -1));
        }
    }

    private void weeks() {
        for (int w = 0; w < 6; w++) {
            row("room " + w, x.room(w, 10));
            row("snow " + w, x.snow(w, false));
        }
    }

    /** How many numbers it has, and which. */
    private void sheet(int s) {
        row("read " + s, x.read(s));
        weeks();
        for (int i = 0; i < 7; i++) {
            row("write " + s + " " + i, x.write(s, i, 0));
        }
    }

    /** Whether sheet 0 is of as many bits as the others, then of how many those are. */
    private void bits() {
        besideFirst("as it is");
        for (int bits = 8; bits <= 32; bits *= 2) {
            x.sheet(0, bits, 0);
            besideFirst(bits + " bits");
        }
    }

    private void besideFirst(String first) {
        for (int s = 1; s < 4; s++) {
            row("copy " + s + " to sheet 0, " + first, x.copy(s, 0, 0, 0, 0));
        }
    }
}
