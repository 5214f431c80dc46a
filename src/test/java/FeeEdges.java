/** Promises 27 to 31. */
final class FeeEdges {
    private static final int NONE = Edges.NONE;
    private static final int[] OTHER_PLACES = {-1, 3, Edges.MIN, Edges.MAX};

    private FeeEdges() {
    }

    static void tests(Edges e) {
        e.test(27, "FEE as it would be now (by all its STEPS and askings).", FeeEdges::owedNow);
        e.test(28, "The greatest FEE a guide can look for: it tells whether THE PARTY asks, and calls, so as to have"
            + " the most on the mean, in n STEPS (0 .. 5)", FeeEdges::greedLengths);
        e.test(28, ", s and a being of these alone", FeeEdges::greedOfTheseAlone);
        e.test(28, "the ROW: the fraction (upper number below 0, if it is below 0)", FeeEdges::greedBelow0);
        e.test(28, ", the chance to be HOME by that (of calls that bring as much those with the greatest chance).",
            FeeEdges::greedOfAsMuch);
        e.test(28, "0; NONE: another n.", FeeEdges::greedRefused);
        e.test(29, "Whether by FEE a guide leads as well as can be: 1, if greed() has the chance to be HOME that best()"
            + " has for n STEPS (0 .. 5), else 0", FeeEdges::honestOrNot);
        e.test(29, "the ROW: by how much it is less, as a fraction.", FeeEdges::honestLess);
        e.test(29, "NONE: another n.", FeeEdges::honestRefused);
        shelfTests(e);
    }

    private static void shelfTests(Edges e) {
        e.test(30, "FEE, as it is, is laid on a shelf, too, under a number 0 .. 2: true.", FeeEdges::shelfPlaces);
        e.test(30, "Refused: others.", FeeEdges::shelfRefused);
        e.test(31, "Of FEES on the shelf that by which greed() for n STEPS (0 .. 5) has the greatest chance to be HOME",
            FeeEdges::fairestLengths);
        e.test(31, "of equal ones the first: its number", FeeEdges::fairestOfEqual);
        e.test(31, "the ROW: for each of them, by numbers, that chance as a fraction (two numbers each).",
            FeeEdges::fairestRow);
        e.test(31, "-2: none is there", FeeEdges::fairestNone);
        e.test(31, "NONE: another n.", FeeEdges::fairestRefused);
    }

    /** HOME is to the right, where it never turns by itself: but behind three times left. */
    private static GuideWalksLast leftish(int voice, String fee) {
        GuideWalksLast x = new GuideWalksLast();
        Scenes.text(x, ".H");
        x.moor();
        x.weights(10, 0);
        x.set(0, voice);
        Scenes.text(x, fee);
        x.fee();
        return x;
    }

    private static void owedNow(Edges e) {
        GuideWalksLast x = e.on("oH.", 2, 0);
        e.fee(x, "90*h-9*x+s-20*a", 0);
        e.is("owed() ahead of all STEPS", x.owed(), 0);
        e.is("ask(1)", x.ask(1), 2);
        e.is("owed() below 0", x.owed(), -19);
        e.steps(x, 0, 1);
        e.is("owed() at HOME", x.owed(), 90 + 2 - 20);
        e.is("go(2, 0)", x.go(2, 0), true);
        e.is("owed(), counted from go() on", x.owed(), 0);
        GuideWalksLast sunk = Scenes.sunk();
        e.is("owed() of the SUNK", sunk.owed(), -2 + 2);
        e.moor(sunk, "o", 1);
        e.is("owed() SUNK from the first", sunk.owed(), -2);
        GuideWalksLast many = e.on(".", 0, 0);
        e.fee(many, "99*s+99*s+99*s+99*s+99*s+99+99", 0);
        for (int i = 0; i < 400; i++) {
            many.step(1);
        }
        e.is("owed() by all its STEPS, not 20 alone", many.owed(), 495 * 400 + 198);
        e.onlyTells("owed()", GuideWalksLast::owed);
    }

    private static void greedLengths(Edges e) {
        for (int n = 0; n <= 5; n++) {
            GuideWalksLast x = leftish(9, "s");
            e.told(x, "greed(" + n + ") of s", x.greed(n), 0, n, 1, n == 0 ? 0 : 1, 1);
            GuideWalksLast y = leftish(9, "a");
            e.told(y, "greed(" + n + ") of a", y.greed(n), 0, n, 1, n == 0 ? 0 : 1, 1);
            GuideWalksLast z = leftish(3, "a");
            e.told(z, "greed(" + n + ") of a, VOICE 3", z.greed(n), 0, Math.min(n, 3), 1, n == 0 ? 0 : 1, 1);
            GuideWalksLast mute = leftish(0, "a+h");
            e.told(mute, "greed(" + n + "), no VOICE", mute.greed(n), 0, n < 3 ? 0 : 1, 1, n < 3 ? 0 : 1, 1);
        }
    }

    private static void greedOfTheseAlone(Edges e) {
        GuideWalksLast x = leftish(9, "s+5*a");
        e.is("ask(1)", x.ask(1), 0);
        e.steps(x, 1, 0, 1, 0);
        e.is("owed()", x.owed(), 8);
        e.told(x, "greed(0)", x.greed(0), 0, 0, 1, 0, 1);
        e.told(x, "greed(2)", x.greed(2), 0, 12, 1, 1, 1);
        // STEPS that it does not need are not counted
        GuideWalksLast home = leftish(9, "9-s-a+h");
        e.steps(home, 2, 1);
        e.told(home, "greed(5) at HOME", home.greed(5), 0, 10, 1, 1, 1);
        GuideWalksLast sunk = Scenes.sunk();
        e.told(sunk, "greed(5) of the SUNK", sunk.greed(5), 0, -2, 1, 0, 1);
    }

    private static void greedBelow0(Edges e) {
        GuideWalksLast x = leftish(9, "0-s");
        e.told(x, "greed(5)", x.greed(5), 0, -1, 1, 1, 1);
        e.told(x, "greed(0)", x.greed(0), 0, 0, 1, 0, 1);
        x.weights(5, 5);
        x.set(1, 5);
        // one STEP, by a half a second one; not heard and gone on it is HOME by a half again
        e.told(x, "greed(2)", x.greed(2), 0, -3, 2, 5, 8);
        GuideWalksLast y = leftish(0, "0-99");
        e.told(y, "greed(2)", y.greed(2), 0, -99, 1, 0, 1);
    }

    private static void greedOfAsMuch(Edges e) {
        GuideWalksLast x = leftish(9, "");
        e.told(x, "greed(1) of none", x.greed(1), 0, 0, 1, 1, 1);
        GuideWalksLast y = leftish(9, "h-a");
        e.told(y, "greed(1), asking costs as much as it brings", y.greed(1), 0, 0, 1, 1, 1);
        GuideWalksLast z = leftish(9, "h-2*a");
        e.told(z, "greed(1), it costs more", z.greed(1), 0, 0, 1, 0, 1);
        e.told(z, "greed(3), HOME by itself", z.greed(3), 0, 1, 1, 1, 1);
        GuideWalksLast w = leftish(9, "1-h");
        e.told(w, "greed(1), HOME is dear", w.greed(1), 0, 1, 1, 0, 1);
    }

    private static void greedRefused(Edges e) {
        e.lengths("greed()", 0, 5, GuideWalksLast::greed);
        for (int n = 0; n <= 5; n++) {
            e.is("greed(" + n + ")", Scenes.busy().greed(n), 0);
        }
        e.onlyTells("greed(5)", x -> x.greed(5));
    }

    private static void honestOrNot(Edges e) {
        for (int n = 0; n <= 5; n++) {
            GuideWalksLast x = leftish(9, "h");
            e.told(x, "honest(" + n + ") of h", x.honest(n), 1, 0, 1);
            GuideWalksLast y = leftish(1, "0-h-a");
            // by itself it is HOME in 3 STEPS, and a call to keep it off costs as much
            boolean leads = n == 0 || n >= 3;
            e.told(y, "honest(" + n + ") of -h", y.honest(n), leads ? 1 : 0, leads ? 0 : 1, 1);
        }
        e.is("honest(5) at HOME", Scenes.home().honest(5), 1);
        e.is("honest(5) of the SUNK", Scenes.sunk().honest(5), 1);
    }

    private static void honestLess(Edges e) {
        GuideWalksLast x = leftish(9, "h-8*a");
        x.weights(0, 0);
        e.told(x, "honest(1), HOME by itself", x.honest(1), 1, 0, 1);
        x.weights(7, 0);
        // 3 of 10 by itself, 10 of 10 by asking
        e.told(x, "honest(1)", x.honest(1), 0, 7, 10);
        x.set(1, 5);
        e.told(x, "honest(1), heard by a half", x.honest(1), 0, 7, 20);
        x.set(1, 0);
        e.told(x, "honest(1), none is heard", x.honest(1), 1, 0, 1);
    }

    private static void honestRefused(Edges e) {
        e.lengths("honest()", 0, 5, GuideWalksLast::honest);
        e.onlyTells("honest(5)", x -> x.honest(5));
    }

    private static void shelfPlaces(Edges e) {
        for (int i = 0; i <= 2; i++) {
            GuideWalksLast x = leftish(9, "1-h");
            e.is("shelf(" + i + ")", x.shelf(i), true);
            e.fee(x, "h", 0);
            e.told(x, "fairest(1), as it was laid", x.fairest(1), i, 0, 1);
            e.is("shelf(" + i + ") anew", x.shelf(i), true);
            e.told(x, "fairest(1)", x.fairest(1), i, 1, 1);
            e.is("FEE stays", x.owed(), 0);
            e.told(x, "greed(1)", x.greed(1), 0, 1, 1, 1, 1);
        }
        GuideWalksLast x = new GuideWalksLast();
        e.is("shelf(0) of no FEE", x.shelf(0), true);
        e.told(x, "fairest(5)", x.fairest(5), 0, 0, 1);
        e.moor(x, "H", 1);
        e.told(x, "fairest(0), on another MOOR", x.fairest(0), 0, 1, 1);
    }

    private static void shelfRefused(Edges e) {
        for (int i : OTHER_PLACES) {
            e.unchanged(Scenes::busy, "shelf(" + i + ")", x -> x.shelf(i) ? 1 : 0, 0);
            e.unchanged(GuideWalksLast::new, "shelf(" + i + ") of a new object", x -> x.shelf(i) ? 1 : 0, 0);
        }
    }

    /** FEES 0, 1, 2: the chance by them in 1 STEP is 0, 1, 1. */
    private static GuideWalksLast laden() {
        GuideWalksLast x = leftish(9, "1-h");
        x.shelf(0);
        Scenes.text(x, "h");
        x.fee();
        x.shelf(1);
        Scenes.text(x, "h+h");
        x.fee();
        x.shelf(2);
        return x;
    }

    private static void fairestLengths(Edges e) {
        GuideWalksLast x = laden();
        e.told(x, "fairest(0)", x.fairest(0), 0, 0, 1, 0, 1, 0, 1);
        for (int n = 1; n <= 5; n++) {
            e.told(x, "fairest(" + n + ")", x.fairest(n), 1, 0, 1, 1, 1, 1, 1);
        }
        GuideWalksLast home = laden();
        e.moor(home, "H", 1);
        e.told(home, "fairest(5) at HOME", home.fairest(5), 0, 1, 1, 1, 1, 1, 1);
        GuideWalksLast sunk = laden();
        e.moor(sunk, "o", 1);
        e.told(sunk, "fairest(5) of the SUNK", sunk.fairest(5), 0, 0, 1, 0, 1, 0, 1);
    }

    private static void fairestOfEqual(Edges e) {
        GuideWalksLast x = laden();
        e.is("1 and 2", x.fairest(1), 1);
        e.is("shelf(0)", x.shelf(0), true);
        e.is("0, 1 and 2", x.fairest(1), 0);
        e.fee(x, "1-h", 0);
        e.is("shelf(0)", x.shelf(0), true);
        e.is("shelf(1)", x.shelf(1), true);
        e.is("2 alone", x.fairest(1), 2);
        e.is("shelf(2)", x.shelf(2), true);
        e.is("none better than 0", x.fairest(1), 0);
    }

    private static void fairestRow(Edges e) {
        for (int laid = 1; laid <= 7; laid++) {
            GuideWalksLast x = leftish(9, "h");
            int many = 0;
            for (int i = 2; i >= 0; i--) {
                if ((laid >> i & 1) != 0) {
                    e.is("shelf(" + i + ")", x.shelf(i), true);
                    many++;
                }
            }
            e.is("fairest(1)", x.fairest(1), Integer.numberOfTrailingZeros(laid));
            e.is("numbers of the ROW", x.count(10), 2 * many);
        }
        GuideWalksLast x = laden();
        e.is("weights(5, 0)", x.weights(5, 0), true);
        e.is("set(0, 0)", x.set(0, 0), 9);
        e.told(x, "fairest(1), no VOICE", x.fairest(1), 0, 1, 2, 1, 2, 1, 2);
        e.is("set(0, 1)", x.set(0, 1), 0);
        e.told(x, "fairest(1)", x.fairest(1), 1, 0, 1, 1, 1, 1, 1);
    }

    private static void fairestNone(Edges e) {
        for (int n = 0; n <= 5; n++) {
            int length = n;
            e.unchanged(GuideWalksLast::new, "fairest(" + n + ")", x -> x.fairest(length), -2);
            e.unchanged(Scenes::unladen, "fairest(" + n + ")", x -> x.fairest(length), -2);
        }
        GuideWalksLast x = leftish(9, "h");
        e.is("fairest(1), FEE is not on the shelf", x.fairest(1), -2);
    }

    private static void fairestRefused(Edges e) {
        e.lengths("fairest()", 0, 5, GuideWalksLast::fairest);
        for (int n : new int[] {-1, 6, Edges.MIN, Edges.MAX}) {
            e.unchanged(Scenes::unladen, "fairest(" + n + "), none is there", x -> x.fairest(n), NONE);
        }
        e.onlyTells("fairest(5)", x -> x.fairest(5));
    }
}
