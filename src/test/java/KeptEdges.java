/** Promises 45 to 49. */
final class KeptEdges {
    private static final int NONE = Edges.NONE;
    private static final int MIN = Edges.MIN;
    private static final int MAX = Edges.MAX;
    private static final int[] OTHER_PLACES = {-1, 3, MIN, MAX};

    private KeptEdges() {
    }

    static void tests(Edges e) {
        e.test(45, "R becomes v: what it was.", KeptEdges::seedAny);
        e.test(46, "CELL, HEADING, VOICE, R, STEPS, askings, TRACKS are kept under a number 0 .. 2: true.",
            KeptEdges::keepPlaces);
        e.test(46, "Refused: others.", KeptEdges::keepRefused);
        e.test(47, "They are as they were kept under a number", KeptEdges::againAsKept);
        e.test(47, "nothing can be undone.", KeptEdges::againNothingUndone);
        e.test(47, "Refused: nothing kept", KeptEdges::againNothingKept);
        e.test(47, ", THE MOOR was told anew since (by moor())", KeptEdges::againMoorAnew);
        e.test(47, ", the CELL is something else than it was.", KeptEdges::againSomethingElse);
        e.test(48, "What 0: CELLS, 1: WIDE, 2: the CELL of THE PARTY, 3: HEADING", KeptEdges::countLand);
        e.test(48, ", 4: 0, 1 if SUNK, 2 if HOME, 5: VOICE, 6: STEPS, 7: askings", KeptEdges::countParty);
        e.test(48, ", 8: STEPS that can be undone, 9: prints, 10: numbers of the ROW, 11: signs of THE TEXT.",
            KeptEdges::countTold);
        e.test(48, "NONE for another what.", KeptEdges::countNone);
        e.test(49, "Number i of the ROW.", KeptEdges::rowNumbers);
        e.test(49, "NoSuchElementException: none such.", KeptEdges::rowNone);
    }

    private static void seedAny(Edges e) {
        GuideWalksLast x = new GuideWalksLast();
        int before = 1;
        for (int v : new int[] {0, -1, 1, MAX, MIN, 12345, -12345}) {
            e.is("seed(" + v + ")", x.seed(v), before);
            before = v;
        }
        // as ints: it wraps round
        int[][] seedsAndNext = {{0, 12345}, {1, 1103527590}, {-1, -1103502900}, {MAX, 1043980748}, {MIN, -2147471303}};
        for (int[] pair : seedsAndNext) {
            x.seed(pair[0]);
            x.alone();
            e.is("R behind a DRAW from " + pair[0], x.seed(0), pair[1]);
        }
    }

    private static void keepPlaces(Edges e) {
        GuideWalksLast x = Scenes.busy();
        int c = x.count(2);
        int heading = x.count(3);
        for (int i = 0; i <= 2; i++) {
            e.is("keep(" + i + ")", x.keep(i), true);
            e.is("count(8), it stays", x.count(8), 4);
        }
        e.is("again(1), kept anew", x.again(1), true);
        e.is("CELL", x.count(2), c);
        e.is("go(0, 2)", x.go(0, 2), true);
        e.is("keep(1)", x.keep(1), true);
        for (int i = 0; i <= 2; i++) {
            e.is("again(" + i + ")", x.again(i), true);
            e.is("CELL", x.count(2), i == 1 ? 0 : c);
            e.is("HEADING", x.count(3), i == 1 ? 2 : heading);
        }
        GuideWalksLast sunk = Scenes.sunk();
        e.is("keep(0) of the SUNK", sunk.keep(0), true);
        e.is("go(0, 0)", sunk.go(0, 0), true);
        e.is("again(0)", sunk.again(0), true);
        e.is("SUNK", sunk.count(4), 1);
        GuideWalksLast stone = new GuideWalksLast();
        e.moor(stone, "#.", 2);
        e.is("keep(0) on a STONE", stone.keep(0), true);
        e.steps(stone, 2, 1);
        e.is("again(0)", stone.again(0), true);
        e.is("CELL", stone.count(2), 0);
    }

    private static void keepRefused(Edges e) {
        for (int i : OTHER_PLACES) {
            e.unchanged(Scenes::busy, "keep(" + i + ")", x -> x.keep(i) ? 1 : 0, 0);
            e.unchanged(Scenes::sunk, "keep(" + i + ")", x -> x.keep(i) ? 1 : 0, 0);
        }
    }

    private static void againAsKept(Edges e) {
        GuideWalksLast x = Scenes.busy();
        int random = x.seed(5);
        x.seed(random);
        int[] kept = new int[8];
        for (int what = 2; what < 8; what++) {
            kept[what] = x.count(what);
        }
        e.is("keep(2)", x.keep(2), true);
        e.is("rain()", x.rain() > 1, true);
        e.is("seed(5)", x.seed(5), random);
        e.is("set(0, 1)", x.set(0, 1), 5);
        e.is("set(1, 2)", x.set(1, 2), 7);
        e.is("weights(10, 0)", x.weights(10, 0), true);
        e.is("go(0, 2)", x.go(0, 2), true);
        e.steps(x, 1, 4);
        for (int times = 0; times < 2; times++) {
            e.is("again(2)", x.again(2), true);
            for (int what = 2; what < 8; what++) {
                e.is("count(" + what + ")", x.count(what), kept[what]);
            }
            e.is("R", x.seed(5), random);
            e.is("track(8)", x.track(8), 9);
            e.is("track(9)", x.track(9), 10);
            e.is("track(0)", x.track(0), NONE);
            // a STEP on does not change what is kept
            e.is("alone()", x.alone() >= 0, true);
        }
        e.is("HEARD stays", x.set(1, 3), 2);
    }

    private static void againNothingUndone(Edges e) {
        GuideWalksLast x = Scenes.busy();
        e.is("count(8)", x.count(8), 4);
        e.is("again(1)", x.again(1), true);
        e.is("count(8)", x.count(8), 0);
        e.is("undo()", x.undo(), NONE);
        e.is("CELL", x.count(2), 9);
        e.steps(x, 1, 10);
        e.is("undo() of a STEP since", x.undo(), 0);
        e.is("CELL", x.count(2), 9);
    }

    private static void againNothingKept(Edges e) {
        for (int i : new int[] {0, 2, -1, 3, MIN, MAX}) {
            e.unchanged(Scenes::busy, "again(" + i + ")", x -> x.again(i) ? 1 : 0, 0);
            e.unchanged(GuideWalksLast::new, "again(" + i + ")", x -> x.again(i) ? 1 : 0, 0);
        }
        e.unchanged(GuideWalksLast::new, "again(1)", x -> x.again(1) ? 1 : 0, 0);
        e.is("again(1)", Scenes.busy().again(1), true);
    }

    private static GuideWalksLast keptAndMoor() {
        GuideWalksLast x = Scenes.busy();
        x.keep(0);
        x.keep(2);
        Scenes.text(x, Scenes.MOOR);
        x.moor();
        return x;
    }

    private static void againMoorAnew(Edges e) {
        for (int i = 0; i <= 2; i++) {
            int place = i;
            e.unchanged(KeptEdges::keptAndMoor, "again(" + i + "), by the same text", x -> x.again(place) ? 1 : 0, 0);
        }
        GuideWalksLast x = keptAndMoor();
        e.is("keep(0)", x.keep(0), true);
        e.is("again(0), kept since", x.again(0), true);
        e.is("again(2)", x.again(2), false);
        GuideWalksLast faulty = Scenes.busy();
        e.moor(faulty, "..x", -3);
        e.is("again(1), moor() told none", faulty.again(1), true);
        GuideWalksLast sheet = Scenes.busy();
        e.is("sheet(0, 1, 1, 0)", sheet.sheet(0, 1, 1, 0), 1);
        e.is("again(1), told anew by sheet()", sheet.again(1), true);
    }

    private static GuideWalksLast keptCellIs(int what) {
        GuideWalksLast x = Scenes.busy();
        x.step(1);
        x.put(9, what);
        return x;
    }

    private static void againSomethingElse(Edges e) {
        for (int what = 1; what <= 3; what++) {
            int kind = what;
            e.unchanged(() -> keptCellIs(kind), "again(1), 9 is " + what, x -> x.again(1) ? 1 : 0, 0);
        }
        e.is("again(1), as it was", keptCellIs(0).again(1), true);
        GuideWalksLast x = keptCellIs(1);
        e.is("again(1)", x.again(1), false);
        e.is("put(9, 0)", x.put(9, 0), 1);
        e.is("again(1), as it was again", x.again(1), true);
        e.is("go(0, 0)", x.go(0, 0), true);
        e.is("sheet(0, 12, 1, 0)", x.sheet(0, 12, 1, 0), 11);
        e.is("again(1), a BOG by sheet()", x.again(1), false);
        e.is("sheet(3, 0, 0, 0)", x.sheet(3, 0, 0, 0), -3);
        e.is("again(1), firm by sheet()", x.again(1), true);
        GuideWalksLast sunk = Scenes.sunk();
        e.is("keep(0)", sunk.keep(0), true);
        e.is("go(0, 0)", sunk.go(0, 0), true);
        e.is("put(2, 0)", sunk.put(2, 0), 1);
        e.is("again(0), firm now", sunk.again(0), false);
        e.is("put(2, 3)", sunk.put(2, 3), 0);
        e.is("again(0), HOME now", sunk.again(0), false);
        e.is("put(2, 1)", sunk.put(2, 1), 3);
        e.is("again(0)", sunk.again(0), true);
        e.is("other CELLS do not matter", otherCellChanged().again(1), true);
    }

    private static GuideWalksLast otherCellChanged() {
        GuideWalksLast x = Scenes.busy();
        x.put(8, 1);
        x.put(3, 0);
        return x;
    }

    private static void countLand(Edges e) {
        for (int wide = 1; wide <= 6; wide++) {
            for (int high = 1; high <= 6; high++) {
                String row = ".".repeat(wide);
                GuideWalksLast x = e.on(row + ("/" + row).repeat(high - 1), wide * high - 1, high % 4);
                e.is("CELLS", x.count(0), wide * high);
                e.is("WIDE", x.count(1), wide);
                e.is("CELL", x.count(2), wide * high - 1);
                e.is("HEADING", x.count(3), high % 4);
            }
        }
    }

    private static void countParty(Edges e) {
        GuideWalksLast x = new GuideWalksLast();
        e.is("firm", x.count(4), 0);
        e.is("SUNK", Scenes.sunk().count(4), 1);
        e.is("HOME", Scenes.home().count(4), 2);
        for (int steps = 1; steps <= 9; steps++) {
            e.is("ask(0)", x.ask(0), 0);
            e.is("VOICE", x.count(5), 9 - steps);
            e.is("STEPS", x.count(6), steps);
            e.is("askings", x.count(7), steps);
        }
        for (int steps = 10; steps <= 60; steps++) {
            e.is("alone()", x.alone(), 0);
            e.is("STEPS", x.count(6), steps);
            e.is("askings", x.count(7), 9);
        }
    }

    private static void countTold(Edges e) {
        GuideWalksLast x = new GuideWalksLast();
        for (int n = 1; n <= 20; n++) {
            e.is("step(0)", x.step(0), 0);
            e.is("STEPS that can be undone", x.count(8), n);
            e.is("sign(0)", x.sign(0), 4 * n);
            e.is("signs", x.count(11), 4 * n);
            x.print(0, 0);
            e.is("prints", x.count(9), Math.min(n, 12));
        }
        e.is("step(0)", x.step(0), 0);
        e.is("STEPS that can be undone", x.count(8), 20);
        e.is("numbers", x.count(10), 0);
        e.is("codes(5, 1)", x.codes(5, 1), 32);
        e.is("numbers", x.count(10), 16);
        e.is("rows()", x.rows(), 177147);
        e.is("numbers", x.count(10), 11);
    }

    private static void countNone(Edges e) {
        for (int what = 0; what <= 11; what++) {
            e.is("count(" + what + ")", Scenes.busy().count(what) >= 0, true);
        }
        for (int what : new int[] {12, 13, -1, -2, MIN, MAX}) {
            e.unchanged(Scenes::busy, "count(" + what + ")", x -> x.count(what), NONE);
        }
    }

    private static void rowNumbers(Edges e) {
        GuideWalksLast x = new GuideWalksLast();
        e.is("codes(5, 1)", x.codes(5, 1), 32);
        for (int i = 0; i < 16; i++) {
            e.is("row(" + i + ")", x.row(i), i);
        }
        e.is("row(0), as often as one likes", x.row(0), 0);
        // more than an int holds
        GuideWalksLast y = e.on("#####H/#####./#####./......", 18, 1);
        e.is("weights(0, 1)", y.weights(0, 1), true);
        e.is("set(1, 9)", y.set(1, 9), 10);
        // on: 91 of 100, seven times; left: 9 of 10
        e.told(y, "best(8)", y.best(8), 0, 465084917421579L, 1000000000000000L);
    }

    private static void rowNone(Edges e) {
        GuideWalksLast x = new GuideWalksLast();
        for (int i : new int[] {0, 1, -1, MIN, MAX}) {
            e.throwsAt(x, i);
        }
        e.is("codes(5, 1)", x.codes(5, 1), 32);
        e.is("row(15), the last", x.row(15), 15);
        for (int i : new int[] {16, 17, -1, MIN, MAX}) {
            e.throwsAt(x, i);
        }
        e.is("hire(1)", x.hire(1), 0);
        e.is("row(0), the last", x.row(0), 0);
        e.throwsAt(x, 1);
        for (int i : new int[] {3, 15, 16, -1, MIN, MAX}) {
            e.unchanged(Scenes::busy, "row(" + i + ")", y -> Due.throwsAt(y, i) ? 1 : 0, 1);
        }
    }
}
