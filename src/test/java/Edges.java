import java.io.IOException;
import java.nio.file.Path;
import java.util.List;

/** Tests of one sentence each: a test tells the promise and its words, and those must stand in the document. */
final class Edges {
    static final int NONE = GuideWalksLast.NONE;
    static final int MIN = Integer.MIN_VALUE;
    static final int MAX = Integer.MAX_VALUE;

    interface Test {
        void run(Edges e);
    }

    interface Scene {
        GuideWalksLast make();
    }

    interface Call {
        long of(GuideWalksLast x);
    }

    interface LengthCall {
        long of(GuideWalksLast x, int n);
    }

    private final Document document = new Document(Path.of("../shared/DOC.md"));
    private final Due due = new Due("EdgesTest");
    private int tests;

    Edges() throws IOException {
    }

    /** Promise 0: the words that stand ahead of promise 1. */
    void test(int promise, String words, Test test) {
        tests++;
        due.begin("promise " + promise + ", '" + words + "'");
        due.is("words that stand there once", document.quote(promise, words), true);
        int before = due.asked();
        try {
            test.run(this);
        } catch (RuntimeException thrown) {
            due.is("no call may throw " + thrown, true, false);
        }
        due.is("a test that asks something", due.asked() > before, true);
    }

    /** Each sentence of each promise has a test that quotes it. */
    void finish() {
        for (int promise = 1; promise <= Document.PROMISES; promise++) {
            due.begin("promise " + promise);
            for (String sentence : document.left(promise)) {
                due.is("a test of: " + sentence, false, true);
            }
        }
        System.out.println("EdgesTest: " + tests + " tests of one sentence each");
        due.finish();
    }

    void is(String call, long got, long want) {
        due.is(call, got, want);
    }

    void is(String call, boolean got, boolean want) {
        due.is(call, got, want);
    }

    void row(GuideWalksLast x, long... want) {
        due.row(x, want);
    }

    /** An answer, and the ROW that it tells. */
    void told(GuideWalksLast x, String call, long got, long want, long... row) {
        due.is(call, got, want);
        due.row(x, row);
    }

    void throwsAt(GuideWalksLast x, int i) {
        due.is("row(" + i + ") throws", Due.throwsAt(x, i), true);
    }

    GuideWalksLast on(String moor, int c, int heading) {
        return due.on(moor, c, heading);
    }

    void text(GuideWalksLast x, String text) {
        due.text(x, text);
    }

    void moor(GuideWalksLast x, String text, int want) {
        due.moor(x, text, want);
    }

    void fee(GuideWalksLast x, String text, int want) {
        due.fee(x, text, want);
    }

    void look(GuideWalksLast x, String text, int want) {
        due.look(x, text, want);
    }

    void kinds(GuideWalksLast x, int... want) {
        due.is("CELLS", x.count(0), want.length);
        for (int c = 0; c < want.length; c++) {
            due.is("cell(" + c + ")", x.cell(c), want[c]);
        }
    }

    /** TURNS and the CELLS to which they lead, by step(). */
    void steps(GuideWalksLast x, int... turnsAndCells) {
        for (int i = 0; i < turnsAndCells.length; i += 2) {
            due.is("step(" + turnsAndCells[i] + ")", x.step(turnsAndCells[i]), turnsAndCells[i + 1]);
        }
    }

    /** A call that answers so, and changes nothing. */
    void unchanged(Scene scene, String name, Call call, long want) {
        GuideWalksLast x = scene.make();
        due.is(name, call.of(x), want);
        same(name, x, scene.make());
        x = scene.make();
        due.is(name, call.of(x), want);
        same(name, Seen.inAnotherOrder(x), Seen.inAnotherOrder(scene.make()));
    }

    /** As unchanged(), for a call that reads a text: THE TEXT is empty then, and that alone. */
    void unchangedButText(Scene scene, String text, Call call, long want) {
        GuideWalksLast x = scene.make();
        GuideWalksLast y = scene.make();
        text(x, text);
        due.is("'" + text + "' read", call.of(x), want);
        due.is("count(11)", x.count(11), 0);
        y.end(0);
        same("'" + text + "' read", x, y);
    }

    /** Nothing that can be seen of the two is unlike. */
    void same(String name, GuideWalksLast x, GuideWalksLast y) {
        same(name, Seen.of(x), Seen.of(y));
    }

    private void same(String name, List<String> got, List<String> want) {
        due.is(name + ": answers behind it", got.size(), want.size());
        for (int i = 0; i < got.size() && i < want.size(); i++) {
            due.is(name + ": behind it " + got.get(i) + ", not " + want.get(i), got.get(i).equals(want.get(i)), true);
        }
    }

    /** A call of n STEPS: the least and the most n are taken, the next ones are NONE, wherever THE PARTY is. */
    void lengths(String name, int least, int most, LengthCall call) {
        for (int n = least; n <= most; n++) {
            is(name + " of " + n + " is taken", call.of(Scenes.busy(), n) != NONE, true);
        }
        for (int n : new int[] {least - 1, most + 1, MIN, MAX}) {
            int length = n;
            for (Scene scene : new Scene[] {Scenes::busy, Scenes::sunk, Scenes::home, Scenes::mute}) {
                unchanged(scene, name + " of " + n, x -> call.of(x, length), NONE);
            }
        }
    }

    /** A call that only looks, not changing anything but the ROW. */
    void onlyTells(String name, Call call) {
        GuideWalksLast x = Scenes.busy();
        GuideWalksLast y = Scenes.busy();
        call.of(x);
        x.hire(3);
        same(name, x, y);
    }
}
