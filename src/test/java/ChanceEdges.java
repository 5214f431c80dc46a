/** Promises 19 to 26. */
final class ChanceEdges {
    private static final int NONE = Edges.NONE;
    private static final int MIN = Edges.MIN;
    private static final int MAX = Edges.MAX;
    private static final int[] OTHER_PERCENTS = {-1, 101, MIN, MAX};
    /** From CELL 18 to HOME each of 8 TURNS must be called, if it turns right by itself. */
    private static final String NARROW = "#####H/#####./#####./......";

    private ChanceEdges() {
    }

    static void tests(Edges e) {
        neverAndBest(e);
        fewestAndShould(e);
        safestAndPerils(e);
        behindAndLoud(e);
    }

    private static void neverAndBest(Edges e) {
        e.test(19, "The chance to be HOME behind n STEPS, if it never asks: the ROW: the fraction, that of being SUNK.",
            ChanceEdges::neverChances);
        e.test(19, "0; NONE: another n.", ChanceEdges::neverLengths);
        e.test(20, "The greatest chance to be HOME behind n STEPS, asking where and as is best",
            ChanceEdges::bestChances);
        e.test(20, ", with VOICE as it is: the ROW: the fraction.", ChanceEdges::bestByVoice);
        e.test(20, "0; NONE: another n.", ChanceEdges::bestLengths);
    }

    private static void fewestAndShould(Edges e) {
        e.test(21, "The fewest calls (0 .. 9; whatever VOICE is)", ChanceEdges::fewestCalls);
        e.test(21, "with which that chance is p (0 .. 100) in 100 or more: how many.", ChanceEdges::fewestPercents);
        e.test(21, "-2: 9 do not", ChanceEdges::fewestDoNot);
        e.test(21, "NONE: others.", ChanceEdges::fewestRefused);
        e.test(22, "What is best now, with VOICE as it is and n STEPS (1 .. 8) to go", ChanceEdges::shouldLengths);
        e.test(22, "0, 1, 2: to ask, and be called that TURN; 3: not to ask", ChanceEdges::shouldTurns);
        e.test(22, "(of as good ones not to ask, then the least).", ChanceEdges::shouldOfAsGood);
        e.test(22, "-2: SUNK or HOME", ChanceEdges::shouldOver);
        e.test(22, "NONE: another n.", ChanceEdges::shouldRefused);
    }

    private static void safestAndPerils(Edges e) {
        e.test(23, "The greatest chance not to be SUNK behind n STEPS, likewise: the ROW: the fraction.",
            ChanceEdges::safestChances);
        e.test(23, "0; NONE: another n.", ChanceEdges::safestLengths);
        e.test(24, "How many CELLS there are at which it can be SUNK within n STEPS, if it never asks",
            ChanceEdges::perilsWithin);
        e.test(24, "(by TURNS that have a WEIGHT)", ChanceEdges::perilsByWeight);
        e.test(24, "the ROW: they, as reach().", ChanceEdges::perilsBits);
        e.test(24, "0 if it is SUNK or HOME", ChanceEdges::perilsOver);
        e.test(24, "NONE: another n.", ChanceEdges::perilsLengths);
    }

    private static void behindAndLoud(Edges e) {
        e.test(25, "The chance to be on a CELL behind n STEPS, if it never asks: the ROW: the fraction",
            ChanceEdges::behindChances);
        e.test(25, ", then as many STEPS as it goes on the mean (HOME or SUNK it goes none), as a fraction.",
            ChanceEdges::behindSteps);
        e.test(25, "0; NONE: no such CELL, another n.", ChanceEdges::behindRefused);
        e.test(26, "The least HEARD (0 .. 10 tenths)", ChanceEdges::loudTenths);
        e.test(26, "with which best() for n STEPS is p (0 .. 100) in 100 or more", ChanceEdges::loudPercents);
        e.test(26, ", with VOICE as it is: how many tenths.", ChanceEdges::loudByVoice);
        e.test(26, "-2: 10 do not", ChanceEdges::loudDoNot);
        e.test(26, "NONE: others.", ChanceEdges::loudRefused);
    }

    /** HOME is to the right, it turns so with a half. */
    private static GuideWalksLast halfway() {
        GuideWalksLast x = new GuideWalksLast();
        Scenes.text(x, ".H");
        x.moor();
        x.weights(5, 0);
        return x;
    }

    /** HOME is to the right, where it never turns by itself. */
    private static GuideWalksLast leftish(int voice, int heard) {
        GuideWalksLast x = halfway();
        x.weights(5, 5);
        x.set(0, voice);
        x.set(1, heard);
        return x;
    }

    private static GuideWalksLast narrow() {
        GuideWalksLast x = new GuideWalksLast();
        Scenes.text(x, NARROW);
        x.moor();
        x.go(18, 1);
        x.weights(0, 0);
        return x;
    }

    private static GuideWalksLast of(String moor) {
        GuideWalksLast x = new GuideWalksLast();
        Scenes.text(x, moor);
        x.moor();
        return x;
    }

    private static void neverChances(Edges e) {
        GuideWalksLast x = halfway();
        // right at once, or left, left, left; half of those who are left go HOME by each second STEP
        long[] lower = {1, 2, 2, 4, 4, 8, 8, 16, 16};
        for (int n = 0; n <= 8; n++) {
            e.told(x, "never(" + n + ")", x.never(n), 0, lower[n] - 1, lower[n], 0, 1);
        }
        GuideWalksLast y = halfwayToBog();
        e.told(y, "never(0)", y.never(0), 0, 0, 1, 0, 1);
        e.told(y, "never(1)", y.never(1), 0, 0, 1, 1, 2);
        e.told(y, "never(8)", y.never(8), 0, 0, 1, 15, 16);
        for (int n = 0; n <= 8; n++) {
            GuideWalksLast home = Scenes.home();
            e.told(home, "never(" + n + ") at HOME", home.never(n), 0, 1, 1, 0, 1);
            GuideWalksLast sunk = Scenes.sunk();
            e.told(sunk, "never(" + n + ") of the SUNK", sunk.never(n), 0, 0, 1, 1, 1);
        }
    }

    private static GuideWalksLast halfwayToBog() {
        GuideWalksLast x = halfway();
        x.put(1, 1);
        return x;
    }

    private static void neverLengths(Edges e) {
        e.lengths("never()", 0, 8, GuideWalksLast::never);
        for (int n = 0; n <= 8; n++) {
            e.is("never(" + n + ")", Scenes.busy().never(n), 0);
        }
        e.onlyTells("never(8)", x -> x.never(8));
    }

    private static void bestChances(Edges e) {
        GuideWalksLast x = narrow();
        e.told(x, "best(8), all called", x.best(8), 0, 1, 1);
        e.told(x, "best(7), too few STEPS", x.best(7), 0, 0, 1);
        x.set(1, 9);
        // one that is not heard cannot be made good any more
        e.told(x, "best(8)", x.best(8), 0, 43046721, 100000000);
        GuideWalksLast y = leftish(9, 3);
        e.told(y, "best(0)", y.best(0), 0, 0, 1);
        e.told(y, "best(1)", y.best(1), 0, 3, 10);
        GuideWalksLast z = halfway();
        z.set(1, 0);
        e.told(z, "best(1), none is heard", z.best(1), 0, 1, 2);
        for (int n = 0; n <= 8; n++) {
            GuideWalksLast home = Scenes.home();
            e.told(home, "best(" + n + ") at HOME", home.best(n), 0, 1, 1);
            GuideWalksLast sunk = Scenes.sunk();
            e.told(sunk, "best(" + n + ") of the SUNK", sunk.best(n), 0, 0, 1);
        }
    }

    private static void bestByVoice(Edges e) {
        GuideWalksLast x = narrow();
        e.is("set(0, 8)", x.set(0, 8), 9);
        e.told(x, "best(8) with 8 calls", x.best(8), 0, 1, 1);
        e.is("set(0, 7)", x.set(0, 7), 8);
        e.told(x, "best(8) with 7 calls", x.best(8), 0, 0, 1);
        GuideWalksLast y = leftish(0, 10);
        e.told(y, "best(2), no VOICE", y.best(2), 0, 0, 1);
        y.set(0, 1);
        e.told(y, "best(2), one call", y.best(2), 0, 1, 1);
        e.is("VOICE", y.count(5), 1);
    }

    private static void bestLengths(Edges e) {
        e.lengths("best()", 0, 8, GuideWalksLast::best);
        for (int n = 0; n <= 8; n++) {
            e.is("best(" + n + ")", Scenes.busy().best(n), 0);
        }
        e.onlyTells("best(8)", x -> x.best(8));
    }

    private static void fewestCalls(Edges e) {
        GuideWalksLast x = narrow();
        for (int voice = 0; voice <= 9; voice++) {
            x.set(0, voice);
            e.is("fewest(8, 100), VOICE " + voice, x.fewest(8, 100), 8);
            e.is("fewest(8, 0), VOICE " + voice, x.fewest(8, 0), 0);
        }
        x.go(19, 1);
        e.is("fewest(7, 100)", x.fewest(7, 100), 7);
        x.weights(0, 10);
        e.is("fewest(7, 100), on by itself", x.fewest(7, 100), 1);
        GuideWalksLast home = Scenes.home();
        e.is("fewest(8, 100) at HOME", home.fewest(8, 100), 0);
        e.is("VOICE", home.count(5), 4);
    }

    private static void fewestPercents(Edges e) {
        GuideWalksLast x = halfway();
        e.is("fewest(1, 0)", x.fewest(1, 0), 0);
        e.is("fewest(1, 50), just so", x.fewest(1, 50), 0);
        e.is("fewest(1, 51)", x.fewest(1, 51), 1);
        e.is("fewest(1, 100)", x.fewest(1, 100), 1);
        GuideWalksLast y = of("o.H");
        y.go(1, 0);
        y.weights(5, 0);
        e.is("fewest(1, 50), SUNK by the other half", y.fewest(1, 50), 0);
        e.is("fewest(1, 51)", y.fewest(1, 51), 1);
        x.set(1, 4);
        // 4 of 10 heard, and the half of 6
        e.is("fewest(1, 70), just so", x.fewest(1, 70), 1);
        e.is("fewest(1, 71)", x.fewest(1, 71), -2);
        e.is("fewest(8, 93), of 15 in 16", x.fewest(8, 93), 0);
        e.is("fewest(8, 94)", x.fewest(8, 94) > 0, true);
        e.is("fewest(0, 0)", x.fewest(0, 0), 0);
        e.is("fewest(0, 1)", x.fewest(0, 1), -2);
    }

    private static void fewestDoNot(Edges e) {
        e.unchanged(Scenes::sunk, "fewest(8, 1) of the SUNK", x -> x.fewest(8, 1), -2);
        e.unchanged(() -> of("...H"), "fewest(2, 1), too far", x -> x.fewest(2, 1), -2);
        e.unchanged(() -> leftish(9, 0), "fewest(2, 1), none is heard", x -> x.fewest(2, 1), -2);
        GuideWalksLast x = narrow();
        e.is("fewest(8, 100)", x.fewest(8, 100), 8);
        x.set(1, 9);
        e.is("fewest(8, 43)", x.fewest(8, 43), 8);
        e.is("fewest(8, 44)", x.fewest(8, 44), -2);
    }

    private static void fewestRefused(Edges e) {
        e.lengths("fewest(.., 0)", 0, 8, (x, n) -> x.fewest(n, 0));
        e.lengths("fewest(.., 100)", 0, 8, (x, n) -> x.fewest(n, 100));
        for (int p : new int[] {0, 1, 99, 100}) {
            e.is("fewest(8, " + p + ")", Scenes.busy().fewest(8, p) != NONE, true);
        }
        for (int p : OTHER_PERCENTS) {
            e.unchanged(Scenes::busy, "fewest(8, " + p + ")", x -> x.fewest(8, p), NONE);
            e.unchanged(Scenes::home, "fewest(0, " + p + ")", x -> x.fewest(0, p), NONE);
        }
        e.onlyTells("fewest(8, 50)", x -> x.fewest(8, 50));
    }

    private static void shouldLengths(Edges e) {
        GuideWalksLast x = leftish(1, 10);
        for (int n = 1; n <= 8; n++) {
            e.is("should(" + n + ")", x.should(n) == 2 || x.should(n) == 3, true);
        }
        e.is("should(1), the last STEP", x.should(1), 2);
        GuideWalksLast y = narrow();
        e.is("should(8)", y.should(8), 1);
        e.is("should(7), of no use", y.should(7), 3);
        y.set(0, 7);
        e.is("should(8), too few calls", y.should(8), 3);
        y.set(0, 0);
        e.is("should(8), no VOICE", y.should(8), 3);
        y.go(23, 1);
        y.set(0, 1);
        y.weights(0, 10);
        e.is("should(3), one call left", y.should(3), 0);
        e.is("VOICE", y.count(5), 1);
    }

    private static void shouldTurns(Edges e) {
        GuideWalksLast x = of("H.H/...");
        x.go(1, 0);
        x.weights(0, 10);
        e.is("left", x.should(1), 0);
        x.put(0, 1);
        e.is("right", x.should(1), 2);
        x.put(2, 1);
        e.is("not", x.should(1), 3);
        x.go(4, 0);
        x.put(1, 3);
        x.weights(0, 0);
        e.is("on", x.should(1), 1);
        x.weights(0, 10);
        e.is("on by itself", x.should(1), 3);
        x.weights(1, 9);
        e.is("on, by itself nearly so", x.should(1), 1);
    }

    private static void shouldOfAsGood(Edges e) {
        GuideWalksLast x = of("HHH/HHH/HHH");
        x.put(4, 0);
        x.go(4, 0);
        e.is("all TURNS, by itself too", x.should(1), 3);
        x.put(1, 0);
        e.is("left as good as right", x.should(1), 0);
        x.put(3, 0);
        e.is("right", x.should(1), 2);
        x.put(1, 3);
        x.weights(10, 0);
        e.is("on as good as right", x.should(1), 1);
        x.weights(0, 5);
        e.is("by itself on or right", x.should(1), 3);
        x.set(1, 0);
        x.weights(10, 0);
        e.is("none is heard", x.should(1), 3);
    }

    private static void shouldOver(Edges e) {
        for (int n = 1; n <= 8; n++) {
            int length = n;
            e.unchanged(Scenes::sunk, "should(" + n + ") of the SUNK", x -> x.should(length), -2);
            e.unchanged(Scenes::home, "should(" + n + ") at HOME", x -> x.should(length), -2);
            e.unchanged(Scenes::muteAndSunk, "should(" + n + "), no VOICE", x -> x.should(length), -2);
        }
    }

    private static void shouldRefused(Edges e) {
        e.lengths("should()", 1, 8, GuideWalksLast::should);
        e.onlyTells("should(8)", x -> x.should(8));
    }

    private static void safestChances(Edges e) {
        GuideWalksLast x = of(".o");
        x.weights(0, 0);
        e.told(x, "safest(0)", x.safest(0), 0, 1, 1);
        e.told(x, "safest(8)", x.safest(8), 0, 1, 1);
        x.set(0, 0);
        e.told(x, "safest(0)", x.safest(0), 0, 1, 1);
        e.told(x, "safest(1), no VOICE", x.safest(1), 0, 0, 1);
        x.set(0, 1);
        x.set(1, 7);
        e.told(x, "safest(1), one call", x.safest(1), 0, 7, 10);
        x.set(1, 0);
        e.told(x, "safest(1), none is heard", x.safest(1), 0, 0, 1);
        for (int n = 0; n <= 8; n++) {
            GuideWalksLast home = Scenes.home();
            e.told(home, "safest(" + n + ") at HOME", home.safest(n), 0, 1, 1);
            GuideWalksLast sunk = Scenes.sunk();
            e.told(sunk, "safest(" + n + ") of the SUNK", sunk.safest(n), 0, 0, 1);
        }
        GuideWalksLast none = of("..");
        e.told(none, "safest(8), no BOG", none.safest(8), 0, 1, 1);
    }

    private static void safestLengths(Edges e) {
        e.lengths("safest()", 0, 8, GuideWalksLast::safest);
        for (int n = 0; n <= 8; n++) {
            e.is("safest(" + n + ")", Scenes.busy().safest(n), 0);
        }
        e.onlyTells("safest(8)", x -> x.safest(8));
    }

    private static void perilsWithin(Edges e) {
        GuideWalksLast x = of(".....o/.....o");
        x.go(0, 1);
        for (int n = 0; n <= 8; n++) {
            e.told(x, "perils(" + n + "), on alone", x.perils(n), n >= 5 ? 1 : 0, n >= 5 ? 32 : 0, 0);
        }
        x.weights(3, 3);
        e.told(x, "perils(4)", x.perils(4), 0, 0, 0);
        e.told(x, "perils(5)", x.perils(5), 1, 32, 0);
        e.told(x, "perils(6)", x.perils(6), 2, 32 + 2048, 0);
        // never beyond a BOG
        GuideWalksLast y = of(".oo");
        y.go(0, 1);
        e.told(y, "perils(8)", y.perils(8), 1, 2, 0);
    }

    private static void perilsByWeight(Edges e) {
        GuideWalksLast x = of(".o./o.o");
        x.go(4, 0);
        e.told(x, "on alone", x.perils(1), 1, 2, 0);
        x.weights(0, 9);
        e.told(x, "on and a tenth right", x.perils(1), 2, 2 + 32, 0);
        x.weights(1, 9);
        e.told(x, "a tenth left and on", x.perils(1), 2, 2 + 8, 0);
        x.weights(1, 8);
        e.told(x, "all", x.perils(1), 3, 2 + 8 + 32, 0);
        x.weights(10, 0);
        e.told(x, "left alone", x.perils(1), 1, 8, 0);
        x.weights(0, 0);
        e.told(x, "right alone", x.perils(1), 1, 32, 0);
        x.set(1, 0);
        e.told(x, "HEARD does not matter", x.perils(1), 1, 32, 0);
    }

    private static void perilsBits(Edges e) {
        int[][] cellsAndBits = {{17, 16, 17}, {18, 19, 0}, {35, 34, 17}, {0, 1, 0}};
        for (int[] trio : cellsAndBits) {
            int c = trio[0];
            GuideWalksLast x = of("....../....../....../....../....../......");
            x.put(1, 0);
            x.go(trio[1], c > trio[1] ? 1 : 3);
            x.put(c, 1);
            long bit = 1L << trio[2];
            e.told(x, "perils(1) beside " + c, x.perils(1), 1, c < 18 ? bit : 0, c < 18 ? 0 : bit);
        }
    }

    private static void perilsOver(Edges e) {
        for (int n = 0; n <= 8; n++) {
            GuideWalksLast sunk = Scenes.sunk();
            e.told(sunk, "perils(" + n + ") of the SUNK", sunk.perils(n), 0, 0, 0);
            GuideWalksLast home = Scenes.home();
            e.told(home, "perils(" + n + ") at HOME", home.perils(n), 0, 0, 0);
        }
    }

    private static void perilsLengths(Edges e) {
        e.lengths("perils()", 0, 8, GuideWalksLast::perils);
        e.onlyTells("perils(8)", x -> x.perils(8));
    }

    private static void behindChances(Edges e) {
        GuideWalksLast x = of("...");
        x.go(0, 1);
        for (int c = 0; c <= 2; c++) {
            e.told(x, "behind(" + c + ", 0)", x.behind(c, 0), 0, c == 0 ? 1 : 0, 1, 0, 1);
            e.told(x, "behind(" + c + ", 1)", x.behind(c, 1), 0, c == 1 ? 1 : 0, 1, 1, 1);
            e.told(x, "behind(" + c + ", 8)", x.behind(c, 8), 0, c == 2 ? 1 : 0, 1, 8, 1);
        }
        for (int n = 0; n <= 8; n++) {
            GuideWalksLast sunk = Scenes.sunk();
            e.told(sunk, "behind(2, " + n + ") of the SUNK", sunk.behind(2, n), 0, 1, 1, 0, 1);
            e.told(sunk, "behind(1, " + n + ") of the SUNK", sunk.behind(1, n), 0, 0, 1, 0, 1);
        }
        x.put(2, 2);
        e.told(x, "behind a STONE", x.behind(2, 8), 0, 0, 1, 8, 1);
    }

    private static void behindSteps(Edges e) {
        GuideWalksLast x = halfway();
        e.told(x, "behind(1, 1)", x.behind(1, 1), 0, 1, 2, 1, 1);
        e.told(x, "behind(1, 2)", x.behind(1, 2), 0, 1, 2, 3, 2);
        e.told(x, "behind(1, 3)", x.behind(1, 3), 0, 3, 4, 2, 1);
        e.told(x, "behind(0, 3)", x.behind(0, 3), 0, 1, 4, 2, 1);
        x.put(1, 1);
        e.told(x, "behind(1, 2) of a BOG", x.behind(1, 2), 0, 1, 2, 3, 2);
        GuideWalksLast home = Scenes.home();
        e.told(home, "behind(3, 8) at HOME", home.behind(3, 8), 0, 1, 1, 0, 1);
    }

    private static void behindRefused(Edges e) {
        e.lengths("behind(0, ..)", 0, 8, (x, n) -> x.behind(0, n));
        e.is("behind(11, 8), the last CELL", Scenes.busy().behind(11, 8), 0);
        for (int c : new int[] {12, 36, -1, MIN, MAX}) {
            e.unchanged(Scenes::busy, "behind(" + c + ", 8)", x -> x.behind(c, 8), NONE);
            e.unchanged(Scenes::home, "behind(" + c + ", 0)", x -> x.behind(c, 0), NONE);
        }
        e.onlyTells("behind(11, 8)", x -> x.behind(11, 8));
    }

    private static void loudTenths(Edges e) {
        GuideWalksLast x = leftish(1, 6);
        for (int tenths = 0; tenths <= 10; tenths++) {
            e.is("loud(1, " + tenths * 10 + ")", x.loud(1, tenths * 10), tenths);
        }
        e.is("HEARD stays", x.set(1, 6), 6);
        e.is("loud(8, 100) at HOME", Scenes.home().loud(8, 100), 0);
    }

    private static void loudPercents(Edges e) {
        GuideWalksLast x = leftish(1, 6);
        e.is("loud(1, 0)", x.loud(1, 0), 0);
        e.is("loud(1, 1)", x.loud(1, 1), 1);
        e.is("loud(1, 50), just so", x.loud(1, 50), 5);
        e.is("loud(1, 51)", x.loud(1, 51), 6);
        e.is("loud(1, 91)", x.loud(1, 91), 10);
        e.is("loud(1, 100)", x.loud(1, 100), 10);
        e.is("loud(0, 0)", x.loud(0, 0), 0);
    }

    private static void loudByVoice(Edges e) {
        GuideWalksLast x = narrow();
        e.is("loud(8, 100)", x.loud(8, 100), 10);
        x.set(0, 8);
        e.is("loud(8, 100), just enough", x.loud(8, 100), 10);
        e.is("loud(8, 43)", x.loud(8, 43), 9);
        x.set(0, 7);
        e.is("loud(8, 1), one too few", x.loud(8, 1), -2);
        GuideWalksLast y = halfway();
        y.set(0, 0);
        e.is("loud(1, 50), no VOICE", y.loud(1, 50), 0);
        e.is("loud(1, 51), no VOICE", y.loud(1, 51), -2);
    }

    private static void loudDoNot(Edges e) {
        e.unchanged(Scenes::sunk, "loud(8, 1) of the SUNK", x -> x.loud(8, 1), -2);
        e.unchanged(() -> of("...H"), "loud(2, 1), too far", x -> x.loud(2, 1), -2);
        e.unchanged(() -> leftish(0, 3), "loud(1, 1), no VOICE", x -> x.loud(1, 1), -2);
    }

    private static void loudRefused(Edges e) {
        e.lengths("loud(.., 0)", 0, 8, (x, n) -> x.loud(n, 0));
        e.lengths("loud(.., 100)", 0, 8, (x, n) -> x.loud(n, 100));
        for (int p : OTHER_PERCENTS) {
            e.unchanged(Scenes::busy, "loud(8, " + p + ")", x -> x.loud(8, p), NONE);
            e.unchanged(Scenes::home, "loud(0, " + p + ")", x -> x.loud(0, p), NONE);
        }
        e.onlyTells("loud(8, 50)", x -> x.loud(8, 50));
    }
}
