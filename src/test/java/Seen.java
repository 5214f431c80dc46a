import java.util.ArrayList;
import java.util.List;

/**
 * All that can be seen of an object, what no call tells outright too: that is brought out by calls that change the
 * object, so it is of no use behind it. A moor of 12 CELLS and 7 STEPS are the most that fit in 512 calls.
 * There are two orders, as the calls that look can be refused: what one part of it spoils another order sees first.
 */
final class Seen {
    private final GuideWalksLast x;
    private final List<String> all = new ArrayList<>();

    private Seen(GuideWalksLast x) {
        this.x = x;
    }

    static List<String> of(GuideWalksLast x) {
        Seen seen = new Seen(x);
        seen.counts();
        seen.row("ROW");
        seen.cells();
        seen.tracks();
        seen.add("look()", x.look());
        seen.row("ROW of look()");
        seen.prints();
        seen.fees();
        seen.add("R", x.seed(7));
        seen.past();
        seen.places(true);
        seen.chances();
        seen.worths();
        return seen.all;
    }

    static List<String> inAnotherOrder(GuideWalksLast x) {
        Seen seen = new Seen(x);
        seen.counts();
        seen.row("ROW");
        seen.add("rain()", x.rain());
        seen.worths();
        seen.places(false);
        seen.fees();
        seen.chances();
        seen.prints();
        seen.cells();
        return seen.all;
    }

    private void add(String call, long answer) {
        all.add(call + " = " + answer);
    }

    private void counts() {
        for (int what = 0; what < 12; what++) {
            add("count(" + what + ")", x.count(what));
        }
    }

    private void row(String name) {
        int size = x.count(10);
        for (int i = 0; i < size; i++) {
            add(name + " " + i, x.row(i));
        }
    }

    private void cells() {
        for (int c = 0; c < x.count(0); c++) {
            add("cell(" + c + ")", x.cell(c));
        }
    }

    private void tracks() {
        for (int c = 0; c < x.count(0); c++) {
            add("track(" + c + ")", x.track(c));
        }
    }

    private void prints() {
        add("rows()", x.rows());
        row("ROW of rows()");
        add("lies()", x.lies());
        row("ROW of lies()");
    }

    private void fees() {
        add("owed()", x.owed());
        add("greed(2)", x.greed(2));
        row("ROW of greed()");
        add("fairest(2)", x.fairest(2));
        row("ROW of fairest()");
    }

    private void party(String when) {
        for (int what = 2; what < 8; what++) {
            add(when + " count(" + what + ")", x.count(what));
        }
        add(when + " R", x.seed(7));
    }

    private void past() {
        while (x.undo() >= 0) {
            party("undone");
            tracks();
        }
    }

    private void places(boolean withTracks) {
        for (int i = 0; i < 3; i++) {
            boolean isKept = x.again(i);
            add("again(" + i + ")", isKept ? 1 : 0);
            party("again(" + i + ")");
            if (isKept && withTracks) {
                tracks();
            }
        }
    }

    /** WEIGHTS, HEARD and FEES, from where a STEP goes to another CELL by each TURN, if there is such a CELL. */
    private void chances() {
        int c = x.count(0) - x.count(1) - 2;
        add("go", x.go(c, 1) ? 1 : 0);
        for (int turn = 0; turn < 3; turn++) {
            int to = turn == 0 ? c - x.count(1) : turn == 1 ? c + 1 : c + x.count(1);
            add("behind(" + to + ", 1)", x.behind(to, 1));
            row("ROW of behind()");
        }
        add("HEARD", x.set(1, 5));
        x.set(0, 9);
        fees();
    }

    private void worths() {
        for (int i = 0; i < 5; i++) {
            for (int k = 0; k < 5; k++) {
                add("worth(" + i + ", " + k + ", ..)", x.worth(i, k, 0));
            }
        }
    }
}
