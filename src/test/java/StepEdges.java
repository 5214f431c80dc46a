/** Promises 12 to 18. */
final class StepEdges {
    private static final int NONE = Edges.NONE;
    private static final int MIN = Edges.MIN;
    private static final int MAX = Edges.MAX;
    private static final int[] OTHER_TURNS = {3, -1, MIN, MAX};
    private static final String ALL_FIRM = "....../....../....../....../....../......";
    /** A way round a wall: HOME, put at CELL 14, is 10 STEPS from CELL 0, at 13 it is 11. */
    private static final String ROUND_A_WALL = "....../#####./......";

    private StepEdges() {
    }

    static void tests(Edges e) {
        stepTests(e);
        undoTests(e);
        lookTests(e);
        wayTests(e);
    }

    private static void stepTests(Edges e) {
        e.test(12, "A STEP with a told TURN (as if called and heard, without VOICE): the CELL.", StepEdges::stepTold);
        e.test(12, "-2: SUNK or HOME", StepEdges::stepOver);
        e.test(12, "NONE: another TURN.", StepEdges::stepRefused);
        e.test(13, "A STEP without asking: the CELL; the ROW: the TURN.", StepEdges::aloneWithoutVoice);
        e.test(13, "-2: SUNK or HOME.", StepEdges::aloneOver);
        e.test(14, "A STEP with a call of a TURN", StepEdges::askLastVoice);
        e.test(14, "(one DRAW of 10: heard, if it is below HEARD; if it is not, one by WEIGHTS): the CELL",
            StepEdges::askBelowHeard);
        e.test(14, "the ROW: 1 if it was heard, the TURN.", StepEdges::askRow);
        e.test(14, "-2: SUNK or HOME", StepEdges::askOver);
        e.test(14, "-3: no VOICE", StepEdges::askMute);
        e.test(14, "NONE: another TURN.", StepEdges::askRefused);
    }

    private static void undoTests(Edges e) {
        e.test(15, "The latest STEP (of 20 that are kept, the latest ones) is undone", StepEdges::undoLatest20);
        e.test(15, "(CELL, HEADING, VOICE, R, STEPS, askings, TRACKS are as ahead of it)", StepEdges::undoAsAhead);
        e.test(15, "how many are left that can be.", StepEdges::undoLeft);
        e.test(15, "Refused: none.", StepEdges::undoNone);
    }

    private static void lookTests(Edges e) {
        e.test(16, "THE TEXT is a WALK (at most 30 signs: l, o, r: TURNS)", StepEdges::lookOf30);
        e.test(16, "looked at from where THE PARTY is: the CELL where it ends", StepEdges::lookEmpty);
        e.test(16, "the ROW: how many of its STEPS were done (it ends, SUNK or HOME)", StepEdges::lookEnds);
        e.test(16, ", 0, 1 if it is SUNK, 2 if HOME.", StepEdges::lookFate);
        e.test(16, "-1 - p: the sign at p can't stand there (30, if it has more).", StepEdges::lookFaults);
        e.test(16, "Nothing changes.", StepEdges::lookChangesNothing);
    }

    private static void wayTests(Edges e) {
        e.test(17, "The fewest STEPS to HOME, by told TURNS: how many", StepEdges::wayFewest);
        e.test(17, "the ROW: TURNS (the first 10)", StepEdges::wayFirst10);
        e.test(17, "of as few the least row.", StepEdges::wayLeast);
        e.test(17, "0: it is HOME", StepEdges::wayAtHome);
        e.test(17, "-2: there is no way, or it is SUNK.", StepEdges::wayNone);
        e.test(18, "How many CELLS can be come to from where it is by any STEPS", StepEdges::reachAll);
        e.test(18, "(its own counts, and where it is SUNK or HOME)", StepEdges::reachEnds);
        e.test(18, "the ROW: they, as two numbers: bits of CELLS 0 .. 17, of 18 .. 35.", StepEdges::reachBits);
    }

    private static void stepTold(Edges e) {
        int[] cells = {3, 1, 5};
        for (int turn = 0; turn <= 2; turn++) {
            GuideWalksLast x = e.on(".../.../...", 4, 0);
            e.is("set(0, 0)", x.set(0, 0), 9);
            e.is("set(1, 0)", x.set(1, 0), 10);
            e.is("seed(77)", x.seed(77), 1);
            e.is("step(" + turn + "), no VOICE, none is heard", x.step(turn), cells[turn]);
            e.is("STEPS", x.count(6), 1);
            e.is("askings", x.count(7), 0);
            e.is("VOICE", x.count(5), 0);
            e.is("R", x.seed(77), 77);
            e.row(x);
        }
        GuideWalksLast x = e.on("..", 0, 1);
        e.steps(x, 1, 1);
        e.is("VOICE", x.count(5), 9);
    }

    private static void stepOver(Edges e) {
        for (int turn = 0; turn <= 2; turn++) {
            int told = turn;
            e.unchanged(Scenes::sunk, "step(" + turn + ") of the SUNK", x -> x.step(told), -2);
            e.unchanged(Scenes::home, "step(" + turn + ") at HOME", x -> x.step(told), -2);
        }
        GuideWalksLast stone = new GuideWalksLast();
        e.moor(stone, "#.", 2);
        e.steps(stone, 1, 0, 2, 1);
    }

    private static void stepRefused(Edges e) {
        for (int turn : OTHER_TURNS) {
            for (Edges.Scene scene : new Edges.Scene[] {Scenes::busy, Scenes::sunk, Scenes::home}) {
                e.unchanged(scene, "step(" + turn + ")", x -> x.step(turn), NONE);
            }
        }
    }

    private static void aloneWithoutVoice(Edges e) {
        GuideWalksLast x = e.on(".../.../...", 4, 0);
        e.is("set(0, 0)", x.set(0, 0), 9);
        e.told(x, "alone()", x.alone(), 1, 1);
        e.is("askings", x.count(7), 0);
        e.is("STEPS", x.count(6), 1);
        e.is("R, one DRAW", x.seed(1), 1103527590);
        e.is("weights(10, 0)", x.weights(10, 0), true);
        e.told(x, "alone()", x.alone(), 0, 0);
        e.is("weights(0, 0)", x.weights(0, 0), true);
        e.told(x, "alone()", x.alone(), 0, 2);
        GuideWalksLast y = e.on("..", 0, 1);
        e.is("alone()", y.alone(), 1);
        e.is("VOICE", y.count(5), 9);
    }

    private static void aloneOver(Edges e) {
        e.unchanged(Scenes::sunk, "alone() of the SUNK", GuideWalksLast::alone, -2);
        e.unchanged(Scenes::home, "alone() at HOME", GuideWalksLast::alone, -2);
    }

    private static void askLastVoice(Edges e) {
        int[] cells = {3, 1, 5};
        for (int turn = 0; turn <= 2; turn++) {
            GuideWalksLast x = e.on(".../.../...", 4, 0);
            e.is("set(0, 1)", x.set(0, 1), 9);
            e.is("ask(" + turn + ")", x.ask(turn), cells[turn]);
            e.is("VOICE", x.count(5), 0);
            e.is("askings", x.count(7), 1);
            e.is("STEPS", x.count(6), 1);
            e.is("ask(" + turn + ")", x.ask(turn), -3);
        }
        GuideWalksLast x = e.on(".", 0, 0);
        for (int voice = 8; voice >= 0; voice--) {
            e.is("ask(1)", x.ask(1), 0);
            e.is("VOICE", x.count(5), voice);
        }
        e.is("the tenth ask(1)", x.ask(1), -3);
    }

    private static void askBelowHeard(Edges e) {
        for (int drawn = 0; drawn <= 9; drawn++) {
            for (int heard = 0; heard <= 10; heard++) {
                GuideWalksLast x = e.on(".../.../...", 4, 0);
                x.set(1, heard);
                x.weights(0, 0);
                x.seed(Scenes.seedFor(drawn));
                e.is("ask(0), " + drawn + " of " + heard, x.ask(0), drawn < heard ? 3 : 5);
                GuideWalksLast y = new GuideWalksLast();
                y.seed(Scenes.seedFor(drawn));
                y.alone();
                if (drawn >= heard) {
                    y.alone();
                }
                e.is("DRAWS", x.seed(0), y.seed(0));
            }
        }
    }

    private static void askRow(Edges e) {
        GuideWalksLast x = e.on(".../.../...", 4, 0);
        e.is("seed", x.seed(Scenes.seedFor(4)), 1);
        e.is("set(1, 5)", x.set(1, 5), 10);
        e.told(x, "ask(2), heard", x.ask(2), 5, 1, 2);
        e.is("seed", x.seed(Scenes.seedFor(5)) != 0, true);
        e.is("weights(10, 0)", x.weights(10, 0), true);
        e.told(x, "ask(1), lost", x.ask(1), 2, 0, 0);
        e.is("seed", x.seed(Scenes.seedFor(5)) != 0, true);
        // the TURN is the called one by chance: it was not heard all the same
        e.told(x, "ask(0), lost", x.ask(0), 1, 0, 0);
    }

    private static void askOver(Edges e) {
        for (int turn = 0; turn <= 2; turn++) {
            int told = turn;
            e.unchanged(Scenes::sunk, "ask(" + turn + ") of the SUNK", x -> x.ask(told), -2);
            e.unchanged(Scenes::home, "ask(" + turn + ") at HOME", x -> x.ask(told), -2);
            e.unchanged(Scenes::muteAndSunk, "ask(" + turn + ") of the SUNK, no VOICE", x -> x.ask(told), -2);
        }
    }

    private static void askMute(Edges e) {
        for (int turn = 0; turn <= 2; turn++) {
            int told = turn;
            e.unchanged(Scenes::mute, "ask(" + turn + "), no VOICE", x -> x.ask(told), -3);
        }
        GuideWalksLast x = Scenes.mute();
        e.is("set(0, 1)", x.set(0, 1), 0);
        e.is("ask(0)", x.ask(0) >= 0, true);
        e.is("ask(0)", x.ask(0), -3);
    }

    private static void askRefused(Edges e) {
        Edges.Scene[] scenes = {Scenes::busy, Scenes::sunk, Scenes::home, Scenes::mute, Scenes::muteAndSunk};
        for (int turn : OTHER_TURNS) {
            for (Edges.Scene scene : scenes) {
                e.unchanged(scene, "ask(" + turn + ")", x -> x.ask(turn), NONE);
            }
        }
    }

    /** So many STEPS round 4 CELLS, then all undone. */
    private static void undoAll(Edges e, int steps) {
        int[] round = {0, 1, 3, 2};
        GuideWalksLast x = e.on("../..", 0, 0);
        for (int i = 1; i <= steps; i++) {
            e.is("step " + i, x.step(2), round[i % 4]);
            e.is("count(8)", x.count(8), Math.min(i, 20));
        }
        int last = Math.max(0, steps - 20);
        for (int i = steps - 1; i >= last; i--) {
            e.is("undo() of step " + (i + 1) + " of " + steps, x.undo(), i - last);
            e.is("CELL", x.count(2), round[i % 4]);
            e.is("STEPS", x.count(6), i);
        }
        e.is("undo()", x.undo(), NONE);
        e.is("STEPS", x.count(6), last);
        e.is("CELL", x.count(2), round[last % 4]);
    }

    private static void undoLatest20(Edges e) {
        for (int steps : new int[] {1, 19, 20, 21, 22, 39, 40, 41, 45}) {
            undoAll(e, steps);
        }
        // places that undo() left free are taken again
        GuideWalksLast x = e.on(".", 0, 0);
        for (int i = 0; i < 20; i++) {
            x.step(1);
        }
        e.is("undo()", x.undo(), 19);
        e.is("undo()", x.undo(), 18);
        e.steps(x, 0, 0, 0, 0, 0, 0);
        e.is("count(8)", x.count(8), 20);
        e.is("HEADING", x.count(3), 1);
        e.is("undo()", x.undo(), 19);
        e.is("HEADING", x.count(3), 2);
    }

    private static void undoAsAhead(Edges e) {
        GuideWalksLast x = e.on("../..", 0, 0);
        e.steps(x, 2, 1);
        e.is("set(0, 4)", x.set(0, 4), 9);
        e.is("seed(9)", x.seed(9), 1);
        e.is("go(0, 1)", x.go(0, 1), true);
        e.is("ask(2)", x.ask(2), 2);
        e.is("track(0), the latest", x.track(0), 2);
        // what is done behind the STEP is undone with it, as far as it is told
        e.is("set(0, 7)", x.set(0, 7), 3);
        e.is("set(1, 5)", x.set(1, 5), 10);
        e.is("rain()", x.rain(), 1);
        e.is("seed(10)", x.seed(10) != 9, true);
        e.is("print(0, 1)", x.print(0, 1), 1);
        e.is("undo()", x.undo(), 0);
        e.is("CELL", x.count(2), 0);
        e.is("HEADING", x.count(3), 1);
        e.is("VOICE", x.count(5), 4);
        e.is("STEPS", x.count(6), 0);
        e.is("askings", x.count(7), 0);
        e.is("R", x.seed(3), 9);
        e.is("track(0), as it led before", x.track(0), 1);
        e.is("HEARD stays", x.set(1, 5), 5);
        e.is("prints stay", x.count(9), 1);
        undoOfTheEnds(e);
    }

    private static void undoOfTheEnds(Edges e) {
        GuideWalksLast sunk = Scenes.sunk();
        e.is("undo()", sunk.undo(), 1);
        e.is("not SUNK", sunk.count(4), 0);
        e.is("CELL", sunk.count(2), 1);
        e.is("track(1)", sunk.track(1), NONE);
        e.is("step(1)", sunk.step(1), 2);
        GuideWalksLast home = Scenes.home();
        e.is("undo()", home.undo(), 1);
        e.is("not HOME", home.count(4), 0);
        e.is("CELL", home.count(2), 7);
        e.is("VOICE", home.count(5), 5);
    }

    private static void undoLeft(Edges e) {
        GuideWalksLast x = Scenes.busy();
        for (int left = 3; left >= 0; left--) {
            e.is("undo()", x.undo(), left);
            e.is("count(8)", x.count(8), left);
        }
        e.is("back where go() was", x.count(2), 8);
        e.is("VOICE", x.count(5), 6);
    }

    private static void undoNone(Edges e) {
        e.unchanged(Scenes::rested, "undo() of none", GuideWalksLast::undo, NONE);
        e.unchanged(GuideWalksLast::new, "undo() of a new object", GuideWalksLast::undo, NONE);
        e.unchanged(() -> allUndone(), "undo() behind the last one", GuideWalksLast::undo, NONE);
    }

    private static GuideWalksLast allUndone() {
        GuideWalksLast x = Scenes.busy();
        for (int i = 0; i < 4; i++) {
            x.undo();
        }
        return x;
    }

    private static void lookOf30(Edges e) {
        GuideWalksLast x = e.on("../..", 0, 0);
        e.look(x, "r".repeat(29), 1);
        e.row(x, 29, 0);
        e.look(x, "r".repeat(30), 3);
        e.row(x, 30, 0);
        e.look(x, "r".repeat(31), -31);
        e.row(x, 30, 0);
        e.look(x, "l", 0);
        e.look(x, "lll", 3);
        e.look(x, "ro", 1);
        for (String sign : new String[] {"L", "O", "R", "0", "1", "2", " ", "m", "n", "k", "p", "q", "s", "\u00ef"}) {
            e.look(x, sign, -1);
        }
    }

    private static void lookEmpty(Edges e) {
        GuideWalksLast x = Scenes.busy();
        e.look(x, "", x.count(2));
        e.row(x, 0, 0);
        GuideWalksLast sunk = Scenes.sunk();
        e.look(sunk, "", 2);
        e.row(sunk, 0, 1);
        GuideWalksLast home = Scenes.home();
        e.look(home, "", 3);
        e.row(home, 0, 2);
        GuideWalksLast y = e.on(".../.../...", 4, 3);
        e.look(y, "r", 1);
        e.look(y, "ooo", 3);
        e.row(y, 3, 0);
    }

    private static void lookEnds(Edges e) {
        GuideWalksLast x = e.on("...o", 0, 1);
        e.look(x, "oo", 2);
        e.row(x, 2, 0);
        e.look(x, "ooo", 3);
        e.row(x, 3, 1);
        e.look(x, "oooo", 3);
        e.row(x, 3, 1);
        e.look(x, "ooolllrrr", 3);
        e.row(x, 3, 1);
        e.look(Scenes.sunk(), "lor", 2);
        GuideWalksLast home = Scenes.home();
        e.look(home, "lor", 3);
        e.row(home, 0, 2);
    }

    private static void lookFate(Edges e) {
        GuideWalksLast x = e.on("o.H", 1, 0);
        e.look(x, "o", 1);
        e.row(x, 1, 0);
        e.look(x, "l", 0);
        e.row(x, 1, 1);
        e.look(x, "r", 2);
        e.row(x, 1, 2);
        GuideWalksLast stone = new GuideWalksLast();
        e.moor(stone, "#.", 2);
        e.look(stone, "o", 0);
        e.row(stone, 1, 0);
    }

    private static void lookFault(Edges e, String text, int p) {
        e.unchangedButText(Scenes::busy, text, GuideWalksLast::look, -1 - p);
    }

    private static void lookFaults(Edges e) {
        lookFault(e, "x", 0);
        lookFault(e, "lox", 2);
        lookFault(e, "lo\0o", 2);
        lookFault(e, "o".repeat(29) + "x", 29);
        lookFault(e, "o".repeat(30) + "x", 30);
        lookFault(e, "o".repeat(31), 30);
        lookFault(e, "o".repeat(80), 30);
        lookFault(e, "o".repeat(29) + "xo", 29);
        lookFault(e, "x" + "o".repeat(79), 0);
        // also behind where it ends
        e.unchangedButText(Scenes::sunk, "ox", GuideWalksLast::look, -2);
        e.unchangedButText(Scenes::home, "o".repeat(31), GuideWalksLast::look, -31);
    }

    private static void lookChangesNothing(Edges e) {
        for (String walk : new String[] {"", "l", "o", "r", "rrrr", "lolo"}) {
            GuideWalksLast x = Scenes.busy();
            GuideWalksLast y = Scenes.busy();
            e.text(x, walk);
            e.is("look()", x.look() >= 0, true);
            e.is("hire(3), for ROW", x.hire(3), y.hire(3));
            e.is("end(0)", y.end(0), true);
            e.same("look() of " + walk, x, y);
        }
    }

    private static void wayFewest(Edges e) {
        GuideWalksLast x = e.on(ROUND_A_WALL, 0, 1);
        for (int[] farAndCell : new int[][] {{12, 12}, {11, 13}, {5, 5}, {1, 1}}) {
            e.is("put HOME", x.put(farAndCell[1], 3), 0);
            e.is("way() to " + farAndCell[1], x.way(), farAndCell[0]);
        }
        GuideWalksLast back = e.on("H...", 3, 1);
        e.is("way() to where it does not look", back.way(), 4);
        GuideWalksLast stone = new GuideWalksLast();
        e.moor(stone, "#H", 2);
        e.told(stone, "way() from a STONE", stone.way(), 1, 2);
    }

    private static void wayFirst10(Edges e) {
        GuideWalksLast x = e.on(ROUND_A_WALL, 0, 1);
        e.is("put(14, 3)", x.put(14, 3), 0);
        e.told(x, "way()", x.way(), 10, 1, 1, 1, 1, 1, 2, 1, 2, 1, 1);
        e.is("put(14, 0)", x.put(14, 0), 3);
        e.is("put(13, 3)", x.put(13, 3), 0);
        e.told(x, "way()", x.way(), 11, 1, 1, 1, 1, 1, 2, 1, 2, 1, 1);
        e.is("put(15, 3)", x.put(15, 3), 0);
        e.told(x, "way()", x.way(), 9, 1, 1, 1, 1, 1, 2, 1, 2, 1);
    }

    private static void wayLeast(Edges e) {
        GuideWalksLast x = e.on("H.H", 1, 0);
        e.told(x, "way()", x.way(), 1, 0);
        GuideWalksLast y = e.on("..H/.../H..", 0, 1);
        // on twice is less than right, left, ..; all TURNS count, from the first one on
        e.told(y, "way()", y.way(), 2, 1, 1);
        GuideWalksLast z = e.on("#../.../..H", 4, 0);
        e.told(z, "way(), right and right", z.way(), 2, 2, 2);
        e.is("put(5, 2)", z.put(5, 2), 0);
        e.told(z, "way(), turned at the STONE", z.way(), 3, 2, 2, 0);
    }

    private static void wayAtHome(Edges e) {
        GuideWalksLast x = Scenes.home();
        e.told(x, "way() at HOME", x.way(), 0);
        GuideWalksLast y = new GuideWalksLast();
        e.moor(y, "H", 1);
        e.told(y, "way() of one CELL", y.way(), 0);
    }

    private static void wayNone(Edges e) {
        e.unchanged(Scenes::sunk, "way() of the SUNK", GuideWalksLast::way, -2);
        e.unchanged(() -> withoutHome(), "way(), no HOME", GuideWalksLast::way, -2);
        GuideWalksLast x = e.on(".#H", 0, 1);
        e.is("way(), a STONE between", x.way(), -2);
        e.is("put(1, 1)", x.put(1, 1), 2);
        e.is("way(), a BOG between", x.way(), -2);
        e.is("put(1, 0)", x.put(1, 0), 1);
        e.is("way()", x.way(), 2);
        GuideWalksLast y = new GuideWalksLast();
        e.moor(y, "oH", 2);
        e.is("way() of the SUNK beside HOME", y.way(), -2);
    }

    private static GuideWalksLast withoutHome() {
        GuideWalksLast x = Scenes.busy();
        x.put(3, 0);
        return x;
    }

    private static void reachAll(Edges e) {
        GuideWalksLast x = e.on(ALL_FIRM, 35, 2);
        e.told(x, "reach()", x.reach(), 36, (1 << 18) - 1, (1 << 18) - 1);
        GuideWalksLast y = new GuideWalksLast();
        e.told(y, "reach() of one CELL", y.reach(), 1, 1, 0);
        GuideWalksLast z = e.on(".#.", 0, 1);
        e.told(z, "reach(), shut in", z.reach(), 1, 1, 0);
    }

    private static void reachEnds(Edges e) {
        GuideWalksLast x = e.on(".oo/.#./HH.", 0, 0);
        e.told(x, "reach(), not beyond BOG and HOME", x.reach(), 4, 1 + 2 + 8 + 64, 0);
        GuideWalksLast sunk = Scenes.sunk();
        e.told(sunk, "reach() of the SUNK", sunk.reach(), 1, 4, 0);
        GuideWalksLast home = Scenes.home();
        e.told(home, "reach() at HOME", home.reach(), 1, 8, 0);
        GuideWalksLast stone = new GuideWalksLast();
        e.moor(stone, "#.", 2);
        e.told(stone, "reach() from a STONE", stone.reach(), 2, 3, 0);
        e.steps(stone, 2, 1);
        e.told(stone, "reach(), not on the STONE", stone.reach(), 1, 2, 0);
    }

    private static void reachBits(Edges e) {
        int[][] cellsAndBits = {{0, 0}, {17, 17}, {18, 0}, {35, 17}};
        for (int[] cellAndBit : cellsAndBits) {
            int c = cellAndBit[0];
            StringBuilder shutIn = new StringBuilder("######/######/######/######/######/######");
            shutIn.setCharAt(c + c / 6, '.');
            GuideWalksLast x = e.on(shutIn.toString(), c, 0);
            long bit = 1L << cellAndBit[1];
            e.told(x, "reach() at " + c, x.reach(), 1, c < 18 ? bit : 0, c < 18 ? 0 : bit);
        }
    }
}
