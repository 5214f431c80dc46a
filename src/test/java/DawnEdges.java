/** Promises 38 to 44. */
final class DawnEdges {
    private static final int NONE = Edges.NONE;
    private static final int MIN = Edges.MIN;
    private static final int MAX = Edges.MAX;

    private DawnEdges() {
    }

    static void tests(Edges e) {
        e.test(38, "A print is told: the CELL where it was next", DawnEdges::printNext);
        e.test(38, "(the first: where it began, HEADING told as 0 .. 3, else it does not matter): how many.",
            DawnEdges::printFirst);
        e.test(38, "Refused: others, 12", DawnEdges::printTwelve);
        e.test(38, "one that is no STEP on from the last (the same CELL, or one beside it).", DawnEdges::printBeside);
        e.test(39, "All prints are forgotten: how many there were.", DawnEdges::wipeMany);
        e.test(40, "In how many rows of TURNS these prints can have come about, one STEP each, on THE MOOR as it is",
            DawnEdges::rowsMany);
        e.test(40, "(no STEP goes on from a BOG, or HOME)", DawnEdges::rowsEnd);
        e.test(40, "the ROW: the least row of them (none without).", DawnEdges::rowsLeast);
        e.test(40, "-2: no print was told.", DawnEdges::rowsNone);
        e.test(41, "The fewest false calls by which they can: in a row of TURNS as rows() has it each TURN without a"
            + " WEIGHT was called", DawnEdges::liesWithoutWeight);
        e.test(41, "such a call is true, if behind it way() is one less than ahead of it, else false: how many",
            DawnEdges::liesFalse);
        e.test(41, "the ROW: TURNS: of as few the least row.", DawnEdges::liesLeast);
        e.test(41, "-2: no such row", DawnEdges::liesNoRow);
        e.test(41, "NONE: no print was told.", DawnEdges::liesNone);
        hireTests(e);
    }

    private static void hireTests(Edges e) {
        e.test(42, "GUIDE i (0 .. 4) is worth v (0 .. 99) to PARTY k (0 .. 4): what it was (at first 0).",
            DawnEdges::worthTaken);
        e.test(42, "Refused: others.", DawnEdges::worthRefused);
        e.test(43, "The most that n (1 .. 5) PARTIES 0 .. n - 1 can have by a GUIDE of 0 .. n - 1 each, unlike ones:"
            + " how much", DawnEdges::hireMost);
        e.test(43, "the ROW: GUIDES of PARTIES in order: of as much the least row.", DawnEdges::hireLeast);
        e.test(43, "NONE: another n.", DawnEdges::hireRefused);
        e.test(44, "By how much that is less, if GUIDE i (of 0 .. n - 1) is hoarse, and worth nothing to anybody.",
            DawnEdges::hoarseLess);
        e.test(44, "NONE: others.", DawnEdges::hoarseRefused);
    }

    private static void prints(Edges e, GuideWalksLast x, int heading, int... cells) {
        x.wipe();
        for (int i = 0; i < cells.length; i++) {
            e.is("print(" + cells[i] + ", ..)", x.print(cells[i], heading), i + 1);
        }
    }

    private static void printNext(Edges e) {
        GuideWalksLast x = e.on("o#./.H.", 2, 0);
        e.is("print(0, 0) on a BOG", x.print(0, 0), 1);
        e.is("print(1, 0) on a STONE", x.print(1, 0), 2);
        e.is("print(4, 0) on HOME", x.print(4, 0), 3);
        e.is("print(5, 0), the last CELL", x.print(5, 0), 4);
        e.is("count(9)", x.count(9), 4);
        e.is("THE PARTY stays", x.count(2), 2);
        e.row(x);
        for (int c : new int[] {12, 36, -1, MIN, MAX}) {
            e.unchanged(Scenes::wiped, "print(" + c + ", 0), the first", y -> y.print(c, 0), NONE);
            e.unchanged(Scenes::busy, "print(" + c + ", 0)", y -> y.print(c, 0), NONE);
        }
    }

    private static void printFirst(Edges e) {
        for (int heading = 0; heading <= 3; heading++) {
            GuideWalksLast x = Scenes.wiped();
            e.is("print(11, " + heading + ")", x.print(11, heading), 1);
        }
        for (int heading : new int[] {4, -1, MIN, MAX}) {
            e.unchanged(Scenes::wiped, "print(0, " + heading + "), the first", x -> x.print(0, heading), NONE);
            GuideWalksLast x = Scenes.wiped();
            e.is("print(9, 1)", x.print(9, 1), 1);
            e.is("print(10, " + heading + "), the second", x.print(10, heading), 2);
            e.told(x, "rows(), by the first HEADING", x.rows(), 1, 1);
            e.is("wipe()", x.wipe(), 2);
            e.is("print(9, " + heading + "), the first again", x.print(9, heading), NONE);
        }
        // the second one's HEADING does not become the first one's
        GuideWalksLast x = Scenes.wiped();
        prints(e, x, 1, 9);
        e.is("print(10, 3)", x.print(10, 3), 2);
        e.told(x, "rows()", x.rows(), 1, 1);
    }

    private static GuideWalksLast withPrints(int many) {
        GuideWalksLast x = Scenes.wiped();
        for (int i = 0; i < many; i++) {
            x.print(11, 0);
        }
        return x;
    }

    private static void printTwelve(Edges e) {
        for (int many = 0; many < 12; many++) {
            e.is("print() behind " + many, withPrints(many).print(11, 0), many + 1);
        }
        for (int c : new int[] {11, 10, 7, 0}) {
            e.unchanged(() -> withPrints(12), "print(" + c + ", 0) behind 12", x -> x.print(c, 0), NONE);
        }
        GuideWalksLast x = withPrints(12);
        e.is("wipe()", x.wipe(), 12);
        e.is("print(11, 0)", x.print(11, 0), 1);
    }

    private static void printBeside(Edges e) {
        GuideWalksLast grid = e.on(".../.../...", 0, 0);
        for (int from = 0; from < 9; from++) {
            for (int to = -1; to <= 9; to++) {
                boolean isCell = to >= 0 && to < 9;
                int apart = isCell ? Math.abs(from % 3 - to % 3) + Math.abs(from / 3 - to / 3) : 9;
                grid.wipe();
                grid.print(from, 0);
                e.is("print(" + to + ", 0) behind " + from, grid.print(to, 0), apart <= 1 ? 2 : NONE);
            }
        }
        e.is("print(9, 0) behind 10", Scenes.busy().print(9, 0), 5);
        // athwart, two on, two up
        for (int c : new int[] {5, 7, 8, 2, 0, 14}) {
            e.unchanged(Scenes::busy, "print(" + c + ", 0) behind 10", y -> y.print(c, 0), NONE);
        }
        // the end of a row is not beside the beginning of the next one
        e.unchanged(DawnEdges::lastIs8, "print(7, 0) behind 8", y -> y.print(7, 0), NONE);
        e.unchanged(DawnEdges::lastIs8, "print(11, 0) behind 8", y -> y.print(11, 0), NONE);
    }

    private static GuideWalksLast lastIs8() {
        GuideWalksLast x = Scenes.wiped();
        x.print(8, 2);
        return x;
    }

    private static void wipeMany(Edges e) {
        GuideWalksLast x = new GuideWalksLast();
        e.is("wipe() of none", x.wipe(), 0);
        GuideWalksLast y = withPrints(12);
        e.is("wipe() of 12", y.wipe(), 12);
        e.is("count(9)", y.count(9), 0);
        e.is("wipe()", y.wipe(), 0);
        e.is("rows()", y.rows(), -2);
        e.is("lies()", y.lies(), NONE);
        e.is("print() anywhere", y.print(0, 3), 1);
    }

    private static void rowsMany(Edges e) {
        GuideWalksLast x = new GuideWalksLast();
        long many = 1;
        for (int prints = 1; prints <= 12; prints++) {
            e.is("print(0, 0)", x.print(0, 0), prints);
            e.is("rows() of " + prints, x.rows(), many);
            e.is("TURNS", x.count(10), prints - 1);
            many *= 3;
        }
        GuideWalksLast y = e.on("..", 0, 0);
        prints(e, y, 0, 0, 0, 0, 0);
        // up, down or left it stays on CELL 0; of 27 rows those that never turn right of it
        e.is("rows() of those that stay", y.rows(), 12);
        prints(e, y, 1, 0, 1, 1);
        e.is("rows() on and against each of the edges", y.rows(), 3);
        e.is("put(1, 2)", y.put(1, 2), 0);
        e.is("rows() on THE MOOR as it is", y.rows(), 0);
        prints(e, y, 1, 0, 0);
        e.is("rows() against the STONE, too", y.rows(), 3);
    }

    private static void rowsEnd(Edges e) {
        GuideWalksLast x = e.on("o.H", 1, 0);
        prints(e, x, 0, 1, 0);
        e.told(x, "rows() to a BOG", x.rows(), 1, 0);
        e.is("print(0, 0)", x.print(0, 0), 3);
        e.told(x, "rows(), not on from a BOG", x.rows(), 0);
        prints(e, x, 0, 1, 2);
        e.told(x, "rows() to HOME", x.rows(), 1, 2);
        e.is("print(1, 0)", x.print(1, 0), 3);
        e.told(x, "rows(), not on from HOME", x.rows(), 0);
        prints(e, x, 0, 0);
        e.told(x, "rows() on a BOG alone", x.rows(), 1);
        prints(e, x, 0, 2, 2);
        e.told(x, "rows(), it began at HOME", x.rows(), 0);
    }

    private static void rowsLeast(Edges e) {
        GuideWalksLast x = e.on("..", 0, 0);
        prints(e, x, 0, 0, 0, 0, 0);
        e.told(x, "rows()", x.rows(), 12, 0, 0, 1);
        prints(e, x, 3, 0, 1);
        e.told(x, "rows() of none", x.rows(), 0);
        prints(e, x, 3, 0);
        e.told(x, "rows() of one print", x.rows(), 1);
        GuideWalksLast y = new GuideWalksLast();
        prints(e, y, 3, 0, 0, 0, 0, 0, 0, 0, 0, 0, 0, 0, 0);
        e.told(y, "rows() of 12 prints", y.rows(), 177147, 0, 0, 0, 0, 0, 0, 0, 0, 0, 0, 0);
    }

    private static void rowsNone(Edges e) {
        e.unchanged(Scenes::wiped, "rows() of no print", GuideWalksLast::rows, -2);
        e.unchanged(GuideWalksLast::new, "rows() of a new object", GuideWalksLast::rows, -2);
        e.is("rows() of one print", withPrints(1).rows(), 1);
        e.onlyTells("rows()", GuideWalksLast::rows);
    }

    private static void liesWithoutWeight(Edges e) {
        GuideWalksLast x = e.on("../..", 3, 0);
        prints(e, x, 0, 0, 1, 3);
        // right, right: HOME is nowhere, so each call is false
        e.is("weights(0, 0)", x.weights(0, 0), true);
        e.told(x, "lies(), right by itself", x.lies(), 0, 2, 2);
        e.is("weights(0, 9)", x.weights(0, 9), true);
        e.told(x, "lies(), a tenth of WEIGHT", x.lies(), 0, 2, 2);
        e.is("weights(0, 10)", x.weights(0, 10), true);
        e.told(x, "lies(), without", x.lies(), 2, 2, 2);
        GuideWalksLast y = new GuideWalksLast();
        prints(e, y, 0, 0, 0, 0, 0, 0, 0, 0, 0, 0, 0, 0, 0);
        e.told(y, "lies() of 12 prints", y.lies(), 0, 1, 1, 1, 1, 1, 1, 1, 1, 1, 1, 1);
        GuideWalksLast z = e.on(".....", 0, 0);
        e.is("weights(10, 0)", z.weights(10, 0), true);
        prints(e, z, 1, 0, 1, 2, 3, 4);
        e.told(z, "lies(), all of them", z.lies(), 4, 1, 1, 1, 1);
    }

    private static void liesFalse(Edges e) {
        GuideWalksLast x = e.on("...H/....", 7, 0);
        e.is("weights(10, 0)", x.weights(10, 0), true);
        prints(e, x, 1, 0, 1, 2, 3);
        e.told(x, "lies(), each one nearer", x.lies(), 0, 1, 1, 1);
        prints(e, x, 1, 0, 4);
        e.told(x, "lies(), further by a way round", x.lies(), 1, 2);
        prints(e, x, 3, 2, 1);
        e.told(x, "lies(), further", x.lies(), 1, 1);
        prints(e, x, 3, 1, 1);
        // up against the edge: from 3 STEPS to 2
        e.told(x, "lies(), nearer on the spot", x.lies(), 0, 2);
        prints(e, x, 1, 2, 3);
        e.told(x, "lies() to HOME", x.lies(), 0, 1);
        e.is("put(3, 0)", x.put(3, 0), 3);
        e.told(x, "lies(), no way() ahead, none behind", x.lies(), 1, 1);
        e.is("put(3, 1)", x.put(3, 1), 0);
        e.told(x, "lies() into a BOG", x.lies(), 1, 1);
        e.is("put(0, 3)", x.put(0, 3), 0);
        e.told(x, "lies(), a way() ahead, none behind", x.lies(), 1, 1);
    }

    private static void liesLeast(Edges e) {
        GuideWalksLast x = e.on("..", 1, 0);
        prints(e, x, 0, 0, 0, 0);
        e.is("weights(5, 5)", x.weights(5, 5), true);
        e.told(x, "lies(), left and on have a WEIGHT", x.lies(), 0, 0, 0);
        e.is("weights(0, 5)", x.weights(0, 5), true);
        e.told(x, "lies(), left has none", x.lies(), 0, 1, 1);
        e.is("weights(10, 0)", x.weights(10, 0), true);
        e.told(x, "lies(), left alone has one", x.lies(), 0, 0, 0);
        e.is("weights(0, 0)", x.weights(0, 0), true);
        // on twice: 2; left, then right: 1, as on the spot right leads to CELL 1
        e.told(x, "lies(), right alone has one", x.lies(), 1, 0, 2);
        prints(e, x, 0, 0);
        e.told(x, "lies() of one print", x.lies(), 0);
    }

    private static void liesNoRow(Edges e) {
        e.unchanged(DawnEdges::withoutRow, "lies() of no row", GuideWalksLast::lies, -2);
        GuideWalksLast x = withoutRow();
        e.is("rows()", x.rows(), 0);
        e.is("lies()", x.lies(), -2);
        GuideWalksLast y = e.on("o.", 1, 0);
        prints(e, y, 0, 0, 0);
        e.is("lies() on from a BOG", y.lies(), -2);
        prints(e, y, 0, 0);
        e.is("lies() of one print", y.lies(), 0);
        // right on CELL 1 leads nowhere: from there it can't have come to 0
        GuideWalksLast z = e.on("..", 1, 0);
        prints(e, z, 0, 1, 1, 0);
        e.told(z, "rows(), a row that breaks off is none", z.rows(), 1, 1, 0);
        e.told(z, "lies(), a row that breaks off is none", z.lies(), 1, 1, 0);
        e.is("weights(10, 0)", z.weights(10, 0), true);
        e.told(z, "lies(), a row that breaks off is none", z.lies(), 1, 1, 0);
    }

    /** From 9 it can't have come back to 8, HEADING right. */
    private static GuideWalksLast withoutRow() {
        GuideWalksLast x = Scenes.wiped();
        x.print(9, 1);
        x.print(8, 0);
        return x;
    }

    private static void liesNone(Edges e) {
        e.unchanged(Scenes::wiped, "lies() of no print", GuideWalksLast::lies, NONE);
        e.unchanged(GuideWalksLast::new, "lies() of a new object", GuideWalksLast::lies, NONE);
        e.is("lies() of one print", withPrints(1).lies(), 0);
        e.onlyTells("lies()", GuideWalksLast::lies);
    }

    private static void worthTaken(Edges e) {
        GuideWalksLast x = new GuideWalksLast();
        for (int i = 0; i <= 4; i++) {
            for (int k = 0; k <= 4; k++) {
                e.is("worth(" + i + ", " + k + ", ..), at first", x.worth(i, k, 10 * i + k), 0);
            }
        }
        for (int i = 0; i <= 4; i++) {
            for (int k = 0; k <= 4; k++) {
                e.is("worth(" + i + ", " + k + ", 99)", x.worth(i, k, 99), 10 * i + k);
                e.is("worth(" + i + ", " + k + ", 0)", x.worth(i, k, 0), 99);
            }
        }
        e.is("worth(4, 4, 0)", x.worth(4, 4, 0), 0);
    }

    private static void worthRefused(Edges e) {
        int[][] others = {{5, 0, 1}, {0, 5, 1}, {-1, 0, 1}, {0, -1, 1}, {1, -1, 1}, {-1, 5, 1}, {1, -5, 1},
            {0, 0, 100}, {0, 0, -1}, {4, 4, 100}, {5, 5, 1}, {MIN, 0, 1}, {MAX, 0, 1}, {0, MIN, 1}, {0, MAX, 1},
            {0, 0, MIN}, {0, 0, MAX}};
        for (int[] o : others) {
            e.unchanged(Scenes::busy, "worth(" + o[0] + ", " + o[1] + ", " + o[2] + ")",
                x -> x.worth(o[0], o[1], o[2]), NONE);
        }
    }

    private static void hireMost(Edges e) {
        GuideWalksLast x = new GuideWalksLast();
        for (int n = 1; n <= 5; n++) {
            e.is("hire(" + n + ") of nothing", x.hire(n), 0);
        }
        for (int i = 0; i <= 4; i++) {
            for (int k = 0; k <= 4; k++) {
                x.worth(i, k, 99);
            }
        }
        for (int n = 1; n <= 5; n++) {
            e.is("hire(" + n + ") of the most", x.hire(n), 99 * n);
        }
        for (int n = 5; n >= 1; n--) {
            e.is("hire(" + n + ") behind one of more", x.hire(n), 99 * n);
        }
        GuideWalksLast y = new GuideWalksLast();
        // of PARTIES and GUIDES 0 .. n - 1 alone
        y.worth(4, 4, 50);
        y.worth(4, 0, 60);
        y.worth(0, 4, 70);
        e.is("hire(4)", y.hire(4), 0);
        e.told(y, "hire(5)", y.hire(5), 130, 4, 1, 2, 3, 0);
        // two would have the same one
        y.worth(4, 1, 99);
        e.told(y, "hire(5)", y.hire(5), 169, 1, 4, 2, 3, 0);
    }

    private static void hireLeast(Edges e) {
        GuideWalksLast x = new GuideWalksLast();
        for (int n = 1; n <= 5; n++) {
            e.is("hire(" + n + ")", x.hire(n), 0);
            e.is("numbers of the ROW", x.count(10), n);
            for (int k = 0; k < n; k++) {
                e.is("GUIDE of " + k, x.row(k), k);
            }
        }
        x.worth(2, 0, 5);
        e.told(x, "hire(3)", x.hire(3), 5, 2, 0, 1);
        x.worth(1, 1, 5);
        e.told(x, "hire(3)", x.hire(3), 10, 2, 1, 0);
        x.worth(0, 0, 5);
        e.told(x, "hire(3), two of 10", x.hire(3), 10, 0, 1, 2);
        x.worth(0, 2, 1);
        e.told(x, "hire(3)", x.hire(3), 11, 2, 1, 0);
    }

    private static void hireRefused(Edges e) {
        e.is("hire(1)", Scenes.busy().hire(1), 5);
        e.is("hire(5)", Scenes.busy().hire(5), 9 + 4 + 8);
        for (int n : new int[] {0, 6, -1, 31, 32, MIN, MAX}) {
            e.unchanged(Scenes::busy, "hire(" + n + ")", x -> x.hire(n), NONE);
        }
    }

    private static void hoarseLess(Edges e) {
        GuideWalksLast x = Scenes.busy();
        e.is("hoarse(0, 1), the only one", x.hoarse(0, 1), 5);
        e.is("hoarse(0, 2)", x.hoarse(0, 2), 4);
        e.is("hoarse(1, 2), the last of two", x.hoarse(1, 2), 13 - 5);
        e.is("hoarse(2, 3), worth nothing", x.hoarse(2, 3), 0);
        e.is("hoarse(4, 5), the last of five", x.hoarse(4, 5), 8);
        e.is("hoarse(0, 5)", x.hoarse(0, 5), 4);
        GuideWalksLast y = new GuideWalksLast();
        for (int i = 0; i <= 4; i++) {
            e.is("hoarse(" + i + ", 5) of nothing", y.hoarse(i, 5), 0);
        }
        y.worth(0, 1, 5);
        // PARTY 0 has the hoarse one: that costs nothing, nor brings it anything
        e.is("hoarse(1, 2), of no use anyway", y.hoarse(1, 2), 0);
        e.is("hoarse(0, 2)", y.hoarse(0, 2), 5);
        e.is("hoarse(2, 5)", y.hoarse(2, 5), 0);
        e.onlyTells("hoarse(1, 2)", z -> z.hoarse(1, 2));
        GuideWalksLast z = Scenes.busy();
        e.row(z, 1, 0, 2);
        z.hoarse(1, 3);
        e.row(z, 1, 0, 2);
    }

    private static void hoarseRefused(Edges e) {
        int[][] others = {{0, 0}, {0, 6}, {-1, 1}, {1, 1}, {2, 2}, {4, 4}, {5, 5}, {5, 6}, {-1, 5}, {-1, 0}, {0, -1},
            {0, MIN}, {0, MAX}, {MIN, 5}, {MAX, 5}, {MIN, MIN}, {MAX, MAX}};
        for (int[] o : others) {
            e.unchanged(Scenes::busy, "hoarse(" + o[0] + ", " + o[1] + ")", x -> x.hoarse(o[0], o[1]), NONE);
        }
    }
}
