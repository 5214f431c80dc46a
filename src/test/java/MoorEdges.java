/** Promises 1 to 11. */
final class MoorEdges {
    private static final int NONE = Edges.NONE;
    private static final int MIN = Edges.MIN;
    private static final int MAX = Edges.MAX;

    private MoorEdges() {
    }

    static void tests(Edges e) {
        e.test(1, "A MOOR of one firm CELL; THE PARTY on it, HEADING 0.", MoorEdges::newObject);
        e.test(2, "Four signs come behind THE TEXT, of v the highest byte first: how many it has.",
            MoorEdges::highestByteFirst);
        e.test(2, "Refused: there would be more than 80.", MoorEdges::signRefused);
        e.test(3, "THE TEXT has its first n signs alone: true", MoorEdges::firstSignsAlone);
        e.test(3, "false if it has not so many, or n is below 0.", MoorEdges::endRefused);
        moorTests(e);
        feeTests(e);
        cellTests(e);
        sheetTests(e);
    }

    private static void moorTests(Edges e) {
        e.test(4, "THE TEXT tells THE MOOR anew: how many CELLS", MoorEdges::moorAnew);
        e.test(4, "THE PARTY is on CELL 0 then", MoorEdges::moorOnCell0);
        e.test(4, "(SUNK or HOME, if that is such; also if it is a STONE)", MoorEdges::moorOnAnyCell0);
        e.test(4, ", HEADING 0, STEPS and askings 0, no TRACKS, no prints", MoorEdges::moorCountsAnew);
        e.test(4, "nothing can be undone.", MoorEdges::moorNothingUndone);
        e.test(4, "-1 - p: the sign at p can't stand there", MoorEdges::moorBadSign);
        e.test(4, "its end, if it ends too early", MoorEdges::moorTooShort);
        e.test(4, "a seventh sign of a row", MoorEdges::moorSeventhSign);
        e.test(4, "or one beyond the length of the first row", MoorEdges::moorRowTooLong);
        e.test(4, "a seventh row's first sign", MoorEdges::moorSeventhRow);
        e.test(4, "a / or the end where the row is not as long as the first one", MoorEdges::moorRowTooShort);
    }

    private static void feeTests(Edges e) {
        e.test(5, "THE TEXT is FEE (an empty one: none): 0.", MoorEdges::feeEmpty);
        e.test(5, "-1 - p: the sign at p can't stand there", MoorEdges::feeBadSign);
        e.test(5, "its end, if it ends too early", MoorEdges::feeTooShort);
        e.test(5, "30, if it has more and the first 30 could go on or end", MoorEdges::feeTooLong);
    }

    private static void cellTests(Edges e) {
        e.test(6, "What a CELL is: 0 firm, 1 BOG, 2 STONE, 3 HOME.", MoorEdges::cellKinds);
        e.test(6, "NONE: none such.", MoorEdges::cellNone);
        e.test(7, "A CELL becomes what is told (0 .. 3): what it was", MoorEdges::putKinds);
        e.test(7, "nothing can be undone.", MoorEdges::putNothingUndone);
        e.test(7, "Refused: others,", MoorEdges::putRefused);
        e.test(7, "the CELL on which THE PARTY is.", MoorEdges::putRefusedOfParty);
        e.test(8, "THE PARTY is on a CELL that is firm, with a HEADING: true", MoorEdges::goFirm);
        e.test(8, "STEPS and askings are 0 then", MoorEdges::goCountsAnew);
        e.test(8, "nothing can be undone.", MoorEdges::goNothingUndone);
        e.test(8, "Refused: others.", MoorEdges::goRefused);
        e.test(9, "WEIGHTS of left and on (right: what is left of 10): true.", MoorEdges::weightsTaken);
        e.test(9, "Refused: below 0, more than 10 together.", MoorEdges::weightsRefused);
        e.test(10, "VOICE (what 0; 0 .. 9)", MoorEdges::setVoice);
        e.test(10, "HEARD (1; 0 .. 10) becomes v: what it was.", MoorEdges::setHeard);
        e.test(10, "Refused: others.", MoorEdges::setRefused);
    }

    private static void sheetTests(Edges e) {
        e.test(11, "CELLS 0, 1, .. told anew as a sheet", MoorEdges::sheetFromCell0);
        e.test(11, "bytes (kind 0), shorts (1), ints (2)", MoorEdges::sheetKinds);
        e.test(11, "of n entries f, f + step, ..", MoorEdges::sheetEntries);
        e.test(11, "(of bytes, shorts the lowest bits, with their sign; what they are: the lowest 2 bits of each)",
            MoorEdges::sheetWraps);
        e.test(11, ", or a missing one (3)", MoorEdges::sheetMissingOfAnyLength);
        e.test(11, "those behind it are firm", MoorEdges::sheetShort);
        e.test(11, "the CELL of THE PARTY stays as it is", MoorEdges::sheetSparesParty);
        e.test(11, "how many CELLS are not firm", MoorEdges::sheetCounts);
        e.test(11, "nothing can be undone.", MoorEdges::sheetNothingUndone);
        e.test(11, "-2: n below 0 (of kinds 0 .. 2; nothing changes)", MoorEdges::sheetBelow0);
        e.test(11, "-3: missing (all firm, but that one).", MoorEdges::sheetMissing);
        e.test(11, "NONE: another kind, n above 36 (these first).", MoorEdges::sheetRefused);
    }

    private static void newObject(Edges e) {
        GuideWalksLast x = new GuideWalksLast();
        int[] counts = {1, 1, 0, 0, 0, 9, 0, 0, 0, 0, 0, 0};
        for (int what = 0; what < counts.length; what++) {
            e.is("count(" + what + ")", x.count(what), counts[what]);
        }
        e.is("cell(0)", x.cell(0), 0);
        e.is("cell(1)", x.cell(1), NONE);
        e.row(x);
        e.steps(x, 1, 0, 0, 0, 0, 0, 0, 0, 0, 0);
        e.is("HEADING, four times left", x.count(3), 0);
    }

    private static void highestByteFirst(Edges e) {
        GuideWalksLast x = new GuideWalksLast();
        e.is("sign lorx", x.sign(Scenes.four("lorx", 0)), 4);
        e.is("look()", x.look(), -4);
        e.is("sign xorl", x.sign(Scenes.four("xorl", 0)), 4);
        e.is("look()", x.look(), -1);
        e.is("sign lolo", x.sign(Scenes.four("lolo", 0)), 4);
        e.is("sign loxo behind it", x.sign(Scenes.four("loxo", 0)), 8);
        e.is("look()", x.look(), -7);
        // a byte of more than 127 is one sign as any, first or last
        e.is("sign of 236, ooo", x.sign(('l' + 128 << 24) + 0x6f6f6f), 4);
        e.is("look()", x.look(), -1);
        e.is("sign of ooo, 236", x.sign(0x6f6f6f00 + 'l' + 128), 4);
        e.is("look()", x.look(), -4);
        e.is("sign(-1)", x.sign(-1), 4);
        e.is("sign(min)", x.sign(MIN), 8);
    }

    private static GuideWalksLast busyWithSigns(int many) {
        GuideWalksLast x = Scenes.busy();
        x.end(0);
        for (int i = 0; i < many; i += 4) {
            x.sign(Scenes.four("orol", 0));
        }
        x.end(many);
        return x;
    }

    private static void signRefused(Edges e) {
        for (int many = 70; many <= 76; many++) {
            e.is("sign() behind " + many, busyWithSigns(many).sign(0), many + 4);
        }
        for (int many = 77; many <= 80; many++) {
            int signs = many;
            e.unchanged(() -> busyWithSigns(signs), "sign() behind " + many, x -> x.sign(0), NONE);
        }
        // the signs that stand are not touched
        GuideWalksLast x = busyWithSigns(80);
        e.is("sign(0)", x.sign(0), NONE);
        e.is("end(30)", x.end(30), true);
        e.is("look() is no fault", x.look() >= 0, true);
    }

    private static void firstSignsAlone(Edges e) {
        GuideWalksLast x = e.on(".....", 0, 0);
        e.text(x, "roolo");
        e.is("end(5), all it has", x.end(5), true);
        e.is("count(11)", x.count(11), 5);
        e.is("end(3)", x.end(3), true);
        e.is("count(11)", x.count(11), 3);
        e.is("look()", x.look(), 3);
        e.text(x, "oxyz");
        e.is("end(1)", x.end(1), true);
        e.is("sign behind it", x.sign(Scenes.four("ooro", 0)), 5);
        e.is("look() of oooro", x.look(), 2);
        e.text(x, "xyz");
        e.is("end(0)", x.end(0), true);
        e.is("count(11)", x.count(11), 0);
        e.is("end(0) of none", x.end(0), true);
        e.is("look()", x.look(), 0);
        GuideWalksLast full = busyWithSigns(80);
        e.is("end(80)", full.end(80), true);
        e.is("count(11)", full.count(11), 80);
    }

    private static void endRefused(Edges e) {
        for (int n : new int[] {3, 4, 80, 81, MAX, -1, -2, MIN}) {
            e.unchanged(Scenes::busy, "end(" + n + ") of 2 signs", x -> x.end(n) ? 1 : 0, 0);
        }
        GuideWalksLast x = new GuideWalksLast();
        e.is("end(1) of none", x.end(1), false);
        e.is("sign(0)", x.sign(0), 4);
        e.is("end(5)", x.end(5), false);
        e.is("end(2)", x.end(2), true);
        e.is("end(3), cut off before", x.end(3), false);
        e.is("count(11)", x.count(11), 2);
        GuideWalksLast full = busyWithSigns(80);
        e.is("end(81)", full.end(81), false);
    }

    private static void moorAnew(Edges e) {
        GuideWalksLast x = Scenes.busy();
        e.moor(x, "H", 1);
        e.kinds(x, 3);
        e.moor(x, "o#/.H/#.", 6);
        e.kinds(x, 1, 2, 0, 3, 2, 0);
        e.is("WIDE", x.count(1), 2);
        e.moor(x, ".", 1);
        e.kinds(x, 0);
        e.is("way(), no HOME of before", x.way(), -2);
        StringBuilder widest = new StringBuilder();
        for (int row = 0; row < 6; row++) {
            widest.append(row == 0 ? "" : "/").append("HHHHHH");
        }
        e.moor(x, widest.toString(), 36);
        e.is("cell(35)", x.cell(35), 3);
        e.is("WIDE", x.count(1), 6);
    }

    private static void moorOnCell0(Edges e) {
        for (String moor : new String[] {".", "......", "./././././.", "....../......"}) {
            GuideWalksLast x = Scenes.busy();
            e.moor(x, moor, moor.replace("/", "").length());
            e.is("CELL of THE PARTY", x.count(2), 0);
            e.is("firm", x.count(4), 0);
        }
    }

    private static void moorOnAnyCell0(Edges e) {
        GuideWalksLast x = Scenes.busy();
        e.moor(x, "o.", 2);
        e.is("SUNK", x.count(4), 1);
        e.is("CELL", x.count(2), 0);
        e.is("step(2)", x.step(2), -2);
        e.moor(x, "H.", 2);
        e.is("HOME", x.count(4), 2);
        e.is("CELL", x.count(2), 0);
        e.is("step(2)", x.step(2), -2);
        e.moor(x, "#.", 2);
        e.is("on a STONE neither", x.count(4), 0);
        e.is("CELL", x.count(2), 0);
        e.steps(x, 0, 0, 0, 0, 0, 1);
        e.steps(x, 0, 1, 0, 1);
        e.is("not back on the STONE", x.count(3), 3);
    }

    private static void moorCountsAnew(Edges e) {
        GuideWalksLast x = Scenes.busy();
        e.moor(x, Scenes.MOOR, 12);
        e.is("HEADING", x.count(3), 0);
        e.is("STEPS", x.count(6), 0);
        e.is("askings", x.count(7), 0);
        for (int c = 0; c < 12; c++) {
            e.is("track(" + c + ")", x.track(c), NONE);
        }
        e.is("rain()", x.rain(), 0);
        e.is("prints", x.count(9), 0);
        e.is("rows()", x.rows(), -2);
        // what it does not name stays
        e.is("VOICE", x.count(5), 5);
        e.is("HEARD", x.set(1, 1), 7);
        e.row(x, 1, 0, 2);
        e.is("worth", x.worth(4, 3, 1), 8);
        e.is("a FEE on the shelf", x.fairest(0), 0);
    }

    private static void moorNothingUndone(Edges e) {
        GuideWalksLast x = Scenes.busy();
        e.is("STEPS that can be undone", x.count(8), 4);
        e.moor(x, Scenes.MOOR, 12);
        e.is("STEPS that can be undone", x.count(8), 0);
        e.is("undo()", x.undo(), NONE);
        e.is("CELL", x.count(2), 0);
    }

    private static void moorFault(Edges e, String text, int p) {
        e.unchangedButText(Scenes::busy, text, GuideWalksLast::moor, -1 - p);
    }

    private static void moorBadSign(Edges e) {
        moorFault(e, "h", 0);
        moorFault(e, "O..", 0);
        moorFault(e, "/..", 0);
        moorFault(e, ". .", 1);
        moorFault(e, "..\0", 2);
        moorFault(e, "\u00ae..", 0);
        moorFault(e, ".\u00ef.", 1);
        moorFault(e, "../x.", 3);
        moorFault(e, "../.x", 4);
        moorFault(e, "..x../..", 2);
    }

    private static void moorTooShort(Edges e) {
        moorFault(e, "", 0);
        moorFault(e, "./", 2);
        moorFault(e, "....../", 7);
        moorFault(e, "./././././", 10);
        moorFault(e, "../../.", 7);
    }

    private static void moorSeventhSign(Edges e) {
        e.moor(Scenes.busy(), "......", 6);
        moorFault(e, ".......", 6);
        moorFault(e, "......H/.......", 6);
        moorFault(e, "....../.......", 13);
        moorFault(e, "....../....../....../....../....../.......", 41);
    }

    private static void moorRowTooLong(Edges e) {
        e.moor(Scenes.busy(), "./.", 2);
        moorFault(e, "./..", 3);
        e.moor(Scenes.busy(), "...../.....", 10);
        moorFault(e, "...../......", 11);
        moorFault(e, "../../...", 8);
        // the first row tells the length, not the one ahead
        moorFault(e, ".../.../....", 11);
    }

    private static void moorSeventhRow(Edges e) {
        e.moor(Scenes.busy(), "./././././.", 6);
        moorFault(e, "././././././.", 12);
        moorFault(e, "././././././.x", 12);
        moorFault(e, "././././././/", 12);
        moorFault(e, "././././././x", 12);
        // behind the sixth row a / can stand, but not the end
        moorFault(e, "././././././", 12);
        moorFault(e, "....../....../....../....../....../....../o", 42);
        moorFault(e, "....../....../....../....../....../....../", 42);
    }

    private static void moorRowTooShort(Edges e) {
        moorFault(e, "../.", 4);
        moorFault(e, "../", 3);
        moorFault(e, ".././..", 4);
        moorFault(e, "..//..", 3);
        moorFault(e, "/", 0);
        moorFault(e, "....../...../......", 12);
        moorFault(e, "....../.....", 12);
        moorFault(e, "....../....../....../....../....../.....", 40);
    }

    private static void feeEmpty(Edges e) {
        GuideWalksLast x = new GuideWalksLast();
        e.fee(x, "7", 0);
        e.is("owed()", x.owed(), 7);
        e.fee(x, "", 0);
        e.is("owed()", x.owed(), 0);
        GuideWalksLast y = Scenes.busy();
        e.fee(y, "", 0);
        e.told(y, "greed(1)", y.greed(1), 0, 0, 1, 0, 1);
        // FEES on the shelf are not touched
        e.is("fairest(0)", y.fairest(0), 0);
    }

    private static void feeFault(Edges e, String text, int p) {
        e.unchangedButText(Scenes::busy, text, GuideWalksLast::fee, -1 - p);
    }

    private static void feeBadSign(Edges e) {
        feeFault(e, "+1", 0);
        feeFault(e, "-h", 0);
        feeFault(e, "*h", 0);
        feeFault(e, "H", 0);
        feeFault(e, "b", 0);
        feeFault(e, "/1", 0);
        feeFault(e, ":1", 0);
        feeFault(e, "1 ", 1);
        feeFault(e, "1\0", 1);
        feeFault(e, "1++2", 2);
        feeFault(e, "1-+2", 2);
        feeFault(e, "100", 2);
        feeFault(e, "000", 2);
        feeFault(e, "1+234", 4);
        feeFault(e, "1h", 1);
        feeFault(e, "12h", 2);
        feeFault(e, "1*2", 2);
        feeFault(e, "1**h", 2);
        feeFault(e, "12*+1", 3);
        feeFault(e, "h*2", 1);
        feeFault(e, "h2", 1);
        feeFault(e, "sa", 1);
        feeFault(e, "2*h*3", 3);
        feeFault(e, "2*hh", 3);
        feeFault(e, "s+1,", 3);
    }

    private static void feeTooShort(Edges e) {
        feeFault(e, "1+", 2);
        feeFault(e, "h-", 2);
        feeFault(e, "1*", 2);
        feeFault(e, "12*", 3);
        feeFault(e, "1+2*", 4);
        // of 29 and of 30 signs
        feeFault(e, "1+1+1+1+1+1+1+1+1+1+1+1+1+12+", 29);
        feeFault(e, "1+1+1+1+1+1+1+1+1+1+1+1+1+1+1+", 30);
        feeFault(e, "1+1+1+1+1+1+1+1+1+1+1+1+1+1+1*", 30);
    }

    private static void feeTooLong(Edges e) {
        GuideWalksLast x = new GuideWalksLast();
        e.fee(x, "1+1+1+1+1+1+1+1+1+1+1+1+1+1+12", 0);
        e.is("owed() of 30 signs", x.owed(), 26);
        feeFault(e, "1+1+1+1+1+1+1+1+1+1+1+1+1+1+123", 30);
        feeFault(e, "1+1+1+1+1+1+1+1+1+1+1+1+1+1+12+", 30);
        feeFault(e, "1+1+1+1+1+1+1+1+1+1+1+1+1+1+12x", 30);
        feeFault(e, "1+1+1+1+1+1+1+1+1+1+1+1+1+1+1+1", 30);
        feeFault(e, "1+1+1+1+1+1+1+1+1+1+1+1+1+1+1*s", 30);
        feeFault(e, "1+1+1+1+1+1+1+1+1+1+1+1+1+11*s+1", 30);
        feeFault(e, "1+1+1+1+1+1+1+1+1+1+1+1+1+1+1+1+1+1+1+1+1+1+1+1+1+1+1+1+1+1+1+1+1+1+1+1+1+1+1+1", 30);
        // the first 30 could neither go on nor end: the sign that can't stand
        feeFault(e, "1+1+1+1+1+1+1+1+1+1+1+1+1+1+1h+", 29);
        feeFault(e, "1+1+1+1+1+1+1+1+1+1+1+1+1+1++1+1", 28);
        feeFault(e, "x+1+1+1+1+1+1+1+1+1+1+1+1+1+1:1", 29);
        feeFault(e, "?+1+1+1+1+1+1+1+1+1+1+1+1+1+1+1", 0);
    }

    private static void cellKinds(Edges e) {
        e.kinds(e.on(".o#H/H#o.", 0, 0), 0, 1, 2, 3, 3, 2, 1, 0);
    }

    private static void cellNone(Edges e) {
        GuideWalksLast x = Scenes.busy();
        e.is("cell(0)", x.cell(0), 0);
        e.is("cell(11), the last", x.cell(11), 0);
        for (int c : new int[] {12, 13, 36, -1, MIN, MAX}) {
            e.unchanged(Scenes::busy, "cell(" + c + ")", y -> y.cell(c), NONE);
        }
        GuideWalksLast widest = e.on("....../....../....../....../....../.....H", 0, 0);
        e.is("cell(35)", widest.cell(35), 3);
        e.is("cell(36)", widest.cell(36), NONE);
        e.moor(widest, "....../......", 12);
        e.is("cell(35), of the moor before", widest.cell(35), NONE);
        e.onlyTells("cell(3)", y -> y.cell(3));
    }

    private static void putKinds(Edges e) {
        GuideWalksLast x = e.on("..o", 1, 1);
        int before = 0;
        for (int what : new int[] {3, 2, 1, 0, 0, 3}) {
            e.is("put(0, " + what + ")", x.put(0, what), before);
            e.is("cell(0)", x.cell(0), what);
            before = what;
        }
        e.is("put(2, 2), the last CELL", x.put(2, 2), 1);
        e.steps(x, 1, 1);
        e.is("the other CELLS", x.cell(1), 0);
        e.steps(x, 0, 1, 0, 0);
        e.is("HOME by put()", x.count(4), 2);
    }

    private static void putNothingUndone(Edges e) {
        GuideWalksLast x = Scenes.busy();
        e.is("put(0, 0), as it is", x.put(0, 0), 0);
        e.is("count(8)", x.count(8), 0);
        e.is("undo()", x.undo(), NONE);
        e.is("STEPS", x.count(6), 4);
        e.steps(x, 0, x.count(2) == 11 ? 7 : x.count(2));
        e.is("undo() of a STEP since", x.undo(), 0);
    }

    private static void putRefused(Edges e) {
        for (int c : new int[] {12, 36, -1, MIN, MAX}) {
            e.unchanged(Scenes::busy, "put(" + c + ", 1)", x -> x.put(c, 1), NONE);
        }
        for (int what : new int[] {4, -1, MIN, MAX}) {
            e.unchanged(Scenes::busy, "put(0, " + what + ")", x -> x.put(0, what), NONE);
        }
        GuideWalksLast x = Scenes.busy();
        e.is("put(11, 3), the last CELL", x.put(x.count(2) == 11 ? 7 : 11, 3), 0);
    }

    private static void putRefusedOfParty(Edges e) {
        for (Edges.Scene scene : new Edges.Scene[] {Scenes::busy, Scenes::sunk, Scenes::home}) {
            for (int what = 0; what <= 3; what++) {
                int kind = what;
                e.unchanged(scene, "put(count(2), " + what + ")", x -> x.put(x.count(2), kind), NONE);
            }
        }
        GuideWalksLast x = e.on("..", 0, 1);
        e.is("put(0, 1)", x.put(0, 1), NONE);
        e.steps(x, 1, 1);
        e.is("put(0, 1), left since", x.put(0, 1), 0);
        e.is("put(1, 1)", x.put(1, 1), NONE);
    }

    private static void goFirm(Edges e) {
        GuideWalksLast x = Scenes.sunk();
        for (int heading = 0; heading <= 3; heading++) {
            e.is("go(0, " + heading + ")", x.go(0, heading), true);
            e.is("HEADING", x.count(3), heading);
        }
        e.is("not SUNK any more", x.count(4), 0);
        e.is("go(11, 3), the last CELL", x.go(11, 3), true);
        e.is("CELL", x.count(2), 11);
        e.is("go(11, 0), where it is", x.go(11, 0), true);
        GuideWalksLast y = Scenes.home();
        e.is("go() from HOME", y.go(7, 2), true);
        e.steps(y, 1, 11);
    }

    private static void goCountsAnew(Edges e) {
        GuideWalksLast x = Scenes.busy();
        int random = x.seed(5);
        x.seed(random);
        e.is("STEPS", x.count(6), 4);
        e.is("askings", x.count(7), 1);
        e.is("go(8, 1)", x.go(8, 1), true);
        e.is("STEPS", x.count(6), 0);
        e.is("askings", x.count(7), 0);
        // what it does not name stays
        e.is("VOICE", x.count(5), 5);
        e.is("track(8)", x.track(8), 9);
        e.is("prints", x.count(9), 4);
        e.is("R", x.seed(1), random);
    }

    private static void goNothingUndone(Edges e) {
        GuideWalksLast x = Scenes.busy();
        e.is("go()", x.go(x.count(2), x.count(3)), true);
        e.is("count(8)", x.count(8), 0);
        e.is("undo()", x.undo(), NONE);
    }

    private static void goRefused(Edges e) {
        for (int c : new int[] {2, 3, 5, 12, 36, -1, MIN, MAX}) {
            e.unchanged(Scenes::busy, "go(" + c + ", 1)", x -> x.go(c, 1) ? 1 : 0, 0);
            e.unchanged(Scenes::sunk, "go(" + c + ", 1)", x -> x.go(c, 1) ? 1 : 0, 0);
        }
        for (int heading : new int[] {4, -1, MIN, MAX}) {
            e.unchanged(Scenes::busy, "go(0, " + heading + ")", x -> x.go(0, heading) ? 1 : 0, 0);
        }
    }

    /** From the midst of 9 CELLS, HEADING up: 3, 1 and 5 lie left, on and right. */
    private static void turnsUp(Edges e, GuideWalksLast x, int left, int on) {
        int[] cells = {3, 1, 5};
        int[] tenths = {left, on, 10 - left - on};
        for (int turn = 0; turn < 3; turn++) {
            e.is("behind(" + cells[turn] + ", 1)", x.behind(cells[turn], 1), 0);
            e.is(left + ", " + on + ": TURN " + turn, x.row(0) * 10 / x.row(1), tenths[turn]);
        }
    }

    private static void weightsTaken(Edges e) {
        GuideWalksLast x = e.on(".../.../...", 4, 0);
        int[][] pairs = {{0, 0}, {10, 0}, {0, 10}, {5, 5}, {1, 9}, {9, 1}, {1, 0}, {0, 1}, {3, 4}};
        for (int[] pair : pairs) {
            e.is("weights(" + pair[0] + ", " + pair[1] + ")", x.weights(pair[0], pair[1]), true);
            turnsUp(e, x, pair[0], pair[1]);
        }
    }

    private static void weightsRefused(Edges e) {
        int[][] pairs = {{-1, 0}, {0, -1}, {-1, 11}, {11, -1}, {-1, -1}, {11, 0}, {0, 11}, {10, 1}, {1, 10}, {5, 6},
            {6, 5}, {MAX, MAX}, {MAX, 1}, {1, MAX}, {MIN, MIN}, {MIN, MAX}, {MAX, MIN}, {MIN, 0}, {0, MIN}};
        for (int[] pair : pairs) {
            e.unchanged(Scenes::busy, "weights(" + pair[0] + ", " + pair[1] + ")",
                x -> x.weights(pair[0], pair[1]) ? 1 : 0, 0);
        }
    }

    private static void setVoice(Edges e) {
        GuideWalksLast x = Scenes.busy();
        int before = 5;
        for (int v : new int[] {0, 9, 1, 0}) {
            e.is("set(0, " + v + ")", x.set(0, v), before);
            e.is("VOICE", x.count(5), v);
            before = v;
        }
        e.is("ask(1)", x.ask(1), -3);
        for (int v : new int[] {10, -1, MIN, MAX}) {
            e.unchanged(Scenes::busy, "set(0, " + v + ")", y -> y.set(0, v), NONE);
        }
    }

    private static void setHeard(Edges e) {
        GuideWalksLast x = Scenes.busy();
        int before = 7;
        for (int v : new int[] {0, 10, 1, 10}) {
            e.is("set(1, " + v + ")", x.set(1, v), before);
            before = v;
        }
        e.is("VOICE", x.count(5), 5);
        for (int v : new int[] {11, -1, MIN, MAX}) {
            e.unchanged(Scenes::busy, "set(1, " + v + ")", y -> y.set(1, v), NONE);
        }
    }

    private static void setRefused(Edges e) {
        for (int what : new int[] {2, -1, MIN, MAX}) {
            e.unchanged(Scenes::busy, "set(" + what + ", 1)", x -> x.set(what, 1), NONE);
        }
    }

    private static void sheetFromCell0(Edges e) {
        GuideWalksLast x = e.on("..../....", 7, 0);
        e.is("sheet(2, 7, 1, 1)", x.sheet(2, 7, 1, 1), 6);
        e.kinds(x, 1, 2, 3, 0, 1, 2, 3, 0);
        e.is("go(3, 0)", x.go(3, 0), true);
        e.is("sheet(2, 1, 3, 0)", x.sheet(2, 1, 3, 0), 1);
        e.kinds(x, 3, 0, 0, 0, 0, 0, 0, 0);
        e.is("way() by the sheet", x.way(), 3);
        e.is("sheet(2, 3, 2, 0)", x.sheet(2, 3, 2, 0), 3);
        e.is("way() by the sheet, no HOME", x.way(), -2);
        e.steps(x, 0, 3);
        e.is("sheet(2, 0, 0, 0)", x.sheet(2, 0, 0, 0), 0);
        e.steps(x, 1, 2);
    }

    private static void sheetKinds(Edges e) {
        for (int kind = 0; kind <= 2; kind++) {
            GuideWalksLast x = e.on("....", 3, 0);
            e.is("sheet(" + kind + ", 3, 1, 1)", x.sheet(kind, 3, 1, 1), 3);
            e.kinds(x, 1, 2, 3, 0);
        }
    }

    private static void sheetEntries(Edges e) {
        for (int kind = 0; kind <= 2; kind++) {
            GuideWalksLast x = e.on(".....", 4, 0);
            e.is("n 0", x.sheet(kind, 0, 3, 3), 0);
            e.kinds(x, 0, 0, 0, 0, 0);
            e.is("n 1", x.sheet(kind, 1, 3, 3), 1);
            e.kinds(x, 3, 0, 0, 0, 0);
            e.is("n 4, downwards", x.sheet(kind, 4, 0, -1), 3);
            e.kinds(x, 0, 3, 2, 1, 0);
            e.is("n 36, more than there are", x.sheet(kind, 36, 2, 0), 4);
            e.kinds(x, 2, 2, 2, 2, 0);
        }
        GuideWalksLast widest = e.on("....../....../....../....../....../......", 0, 0);
        e.is("n 36 of 36", widest.sheet(0, 36, 1, 0), 35);
        e.is("cell(35)", widest.cell(35), 1);
        e.is("n 35 of 36", widest.sheet(0, 35, 1, 0), 34);
        e.is("cell(34)", widest.cell(34), 1);
        e.is("cell(35)", widest.cell(35), 0);
    }

    private static void sheetWraps(Edges e) {
        int[][] borders = {{0, 127, 1}, {0, 255, 1}, {0, -128, -1}, {1, 32767, 1}, {1, 65535, 1}, {1, -32768, -1},
            {2, MAX, 1}, {2, MIN, -1}, {0, MAX, MAX}, {1, MIN, MIN}, {2, MAX, MAX}, {0, 256, 65}, {1, 65536, 16385}};
        for (int[] b : borders) {
            GuideWalksLast x = e.on(".....", 4, 0);
            int[] want = new int[5];
            int uneven = 0;
            for (int c = 0; c < 4; c++) {
                want[c] = Math.floorMod(b[1] + (long) c * b[2], 4);
                uneven += want[c] == 0 ? 0 : 1;
            }
            e.is("sheet(" + b[0] + ", 4, " + b[1] + ", " + b[2] + ")", x.sheet(b[0], 4, b[1], b[2]), uneven);
            e.kinds(x, want);
        }
    }

    private static void sheetMissingOfAnyLength(Edges e) {
        for (int n : new int[] {36, 12, 0, -1, MIN}) {
            GuideWalksLast x = Scenes.busy();
            e.is("sheet(3, " + n + ", 1, 1)", x.sheet(3, n, 1, 1), -3);
            e.kinds(x, 0, 0, 0, 0, 0, 0, 0, 0, 0, 0, 0, 0);
        }
        e.unchanged(Scenes::busy, "sheet(3, 37, 1, 1)", x -> x.sheet(3, 37, 1, 1), NONE);
    }

    private static void sheetShort(Edges e) {
        for (int n = 0; n <= 12; n++) {
            GuideWalksLast x = Scenes.sunk();
            e.is("sheet(1, " + n + ", 2, 0)", x.sheet(1, n, 2, 0), n > 2 ? n : n + 1);
            for (int c = 0; c < 12; c++) {
                e.is("cell(" + c + ") of " + n, x.cell(c), c == 2 ? 1 : c < n ? 2 : 0);
            }
        }
    }

    private static void sheetSparesParty(Edges e) {
        GuideWalksLast x = e.on("...", 1, 0);
        e.is("sheet(0, 3, 3, -1)", x.sheet(0, 3, 3, -1), 2);
        // the entry of its CELL is passed over, not kept for the next one
        e.kinds(x, 3, 0, 1);
        GuideWalksLast sunk = Scenes.sunk();
        e.is("all HOME but its BOG", sunk.sheet(2, 36, 3, 0), 12);
        e.is("cell(2)", sunk.cell(2), 1);
        e.is("SUNK", sunk.count(4), 1);
        GuideWalksLast home = Scenes.home();
        e.is("all firm but its HOME", home.sheet(2, 36, 0, 0), 1);
        e.is("cell(3)", home.cell(3), 3);
        GuideWalksLast stone = new GuideWalksLast();
        e.moor(stone, "#.", 2);
        e.is("all firm but its STONE", stone.sheet(2, 2, 0, 0), 1);
        e.kinds(stone, 2, 0);
    }

    private static void sheetCounts(Edges e) {
        GuideWalksLast x = e.on("...", 1, 0);
        e.is("none", x.sheet(0, 3, 0, 0), 0);
        e.is("none, by 4", x.sheet(0, 3, 4, 4), 0);
        e.is("all but its own", x.sheet(0, 3, 1, 0), 2);
        e.is("one", x.sheet(0, 1, 1, 0), 1);
        e.is("its own too, when it is a BOG", Scenes.sunk().sheet(0, 0, 0, 0), 1);
    }

    private static void sheetNothingUndone(Edges e) {
        for (int kind = 0; kind <= 3; kind++) {
            GuideWalksLast x = Scenes.busy();
            x.sheet(kind, 0, 0, 0);
            e.is("count(8), kind " + kind, x.count(8), 0);
            e.is("undo()", x.undo(), NONE);
            e.is("STEPS", x.count(6), 4);
            e.is("track(8)", x.track(8), 9);
        }
    }

    private static void sheetBelow0(Edges e) {
        for (int kind = 0; kind <= 2; kind++) {
            int of = kind;
            e.is("n 0, kind " + kind, Scenes.busy().sheet(kind, 0, 1, 1), 0);
            e.unchanged(Scenes::busy, "n -1, kind " + kind, x -> x.sheet(of, -1, 1, 1), -2);
            e.unchanged(Scenes::home, "n min, kind " + kind, x -> x.sheet(of, MIN, 1, 1), -2);
        }
        e.is("n -1, kind 3", Scenes.busy().sheet(3, -1, 1, 1), -3);
    }

    private static void sheetMissing(Edges e) {
        GuideWalksLast x = Scenes.sunk();
        e.is("sheet(3, 12, 3, 0)", x.sheet(3, 12, 3, 0), -3);
        e.kinds(x, 0, 0, 1, 0, 0, 0, 0, 0, 0, 0, 0, 0);
        GuideWalksLast y = Scenes.home();
        e.is("sheet(3, 0, 1, 1)", y.sheet(3, 0, 1, 1), -3);
        e.kinds(y, 0, 0, 0, 3, 0, 0, 0, 0, 0, 0, 0, 0);
        // nothing but CELLS, and what can be undone, changes; as by a sheet of no entries
        for (Edges.Scene scene : new Edges.Scene[] {Scenes::busy, Scenes::sunk, Scenes::home}) {
            GuideWalksLast missing = scene.make();
            GuideWalksLast empty = scene.make();
            e.is("sheet(3, 5, 1, 1)", missing.sheet(3, 5, 1, 1), -3);
            e.is("sheet(0, 0, 1, 1)", empty.sheet(0, 0, 1, 1) >= 0, true);
            e.same("sheet(3, 5, 1, 1)", missing, empty);
        }
    }

    private static void sheetRefused(Edges e) {
        for (int kind : new int[] {-1, 4, MIN, MAX}) {
            for (int n : new int[] {0, 1, -1, 37}) {
                e.unchanged(Scenes::busy, "sheet(" + kind + ", " + n + ", 1, 1)", x -> x.sheet(kind, n, 1, 1), NONE);
            }
        }
        for (int kind = 0; kind <= 3; kind++) {
            int of = kind;
            e.is("n 36, kind " + kind, Scenes.busy().sheet(kind, 36, 0, 0), kind == 3 ? -3 : 0);
            for (int n : new int[] {37, MAX}) {
                e.unchanged(Scenes::busy, "sheet(" + kind + ", " + n + ", 1, 1)", x -> x.sheet(of, n, 1, 1), NONE);
            }
        }
    }
}
