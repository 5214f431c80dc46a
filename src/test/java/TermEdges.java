/** What stands ahead of promise 1: what it is, the terms, and the lines that begin the groups of calls. */
final class TermEdges {
    private static final int NONE = Edges.NONE;
    private static final String ALL_FIRM = "....../....../....../....../....../......";

    private TermEdges() {
    }

    static void tests(Edges e) {
        e.test(0, "An object is used for at most 512 calls after it has been made", TermEdges::calls512);
        e.test(0, "THE MOOR: WIDE 1 .. 6, HIGH 1 .. 6", TermEdges::wideAndHigh);
        e.test(0, "CELLS by rows from the top, numbers from 0: firm, BOG, STONE, or HOME.", TermEdges::cellNumbers);
        e.test(0, "It is told by a text of at most 44 signs", TermEdges::longestMoor);
        e.test(0, "rows with / between, of one length each", TermEdges::rowsOfOneLength);
        e.test(0, "H (HOME; any many)", TermEdges::anyManyHomes);
        partyTests(e);
        drawTests(e);
        feeTests(e);
        rowTests(e);
        e.test(0, "chances (of the next n STEPS, 0 .. 8; HOME or SUNK it stays so)", TermEdges::chanceLengths);
        e.test(0, "FEE is paid behind the last of n STEPS; those it did not need, HOME or SUNK, are not counted",
            TermEdges::feesNotNeeded);
    }

    private static void partyTests(Edges e) {
        e.test(0, "a HEADING (0 up, 1 right, 2 down, 3 left)", TermEdges::headings);
        e.test(0, "WEIGHTS of going left, on, right by itself: tenths, 10 together (at first 0, 10, 0)",
            TermEdges::weightsAtFirst);
        e.test(0, "VOICE 0 .. 9 (calls left; at first 9)", TermEdges::voiceAtFirst);
        e.test(0, "HEARD 0 .. 10: tenths with which a call is heard (at first 10)", TermEdges::heardAtFirst);
        e.test(0, "HEADING is turned so (left: one less, right: one more, round)", TermEdges::turnsRound);
        e.test(0, "then THE PARTY goes one CELL that way; if that is a STONE or outside, it stays where it is"
            + " (HEADING is turned all the same)", TermEdges::stays);
        e.test(0, "On a BOG it is SUNK, on HOME it is HOME: neither steps on.", TermEdges::stepsNotOn);
        e.test(0, "If it ASKS in a STEP (VOICE 1 at least; VOICE is 1 less), a TURN is called", TermEdges::asks);
        e.test(0, "with HEARD it is that TURN, else one by its WEIGHTS.", TermEdges::heardOrNot);
        e.test(0, "If it does not ask: by its WEIGHTS.", TermEdges::asksNot);
    }

    private static void drawTests(Edges e) {
        e.test(0, "R = R times 1103515245 + 12345 (as ints; R at first 1)", TermEdges::drawsWrap);
        e.test(0, "(R without sign, by 65536) % n", TermEdges::drawsWithoutSign);
        e.test(0, "below the first WEIGHT left, below the first two together on, else right.",
            TermEdges::drawsByWeight);
    }

    private static void feeTests(Edges e) {
        e.test(0, "FEE is a text of at most 30 signs (at first none: 0)", TermEdges::feeOf30);
        e.test(0, "+ and - of things (from the left)", TermEdges::feeFromTheLeft);
        e.test(0, "a NUMBER of 1 or 2 digits", TermEdges::feeDigits);
        e.test(0, "or one of them times (*) a letter or a letter", TermEdges::feeLetters);
        e.test(0, "h (1 if it is HOME, else 0), x (1 if it is SUNK), s (STEPS), a (how often it asked)",
            TermEdges::feeMeans);
    }

    private static void rowTests(Edges e) {
        e.test(0, "numbers told last by a call that says so.", TermEdges::rowToldLast);
        e.test(0, "Rows are compared from the first number on.", TermEdges::rowsCompared);
        e.test(0, "Fractions are told in lowest terms, upper and lower number (0 by 1).", TermEdges::fractions);
        e.test(0, "Refused calls answer NONE, or false, and change nothing but THE TEXT, which a call that reads it"
            + " empties.", TermEdges::textIsEmptied);
        e.test(0, "NONE comes ahead of -2, -2 ahead of -3.", TermEdges::noneAhead);
    }

    private static void calls512(Edges e) {
        GuideWalksLast x = new GuideWalksLast();
        for (int i = 1; i < 512; i++) {
            x.step(i % 3);
        }
        e.is("call 512: STEPS", x.count(6), 511);
        GuideWalksLast y = new GuideWalksLast();
        for (int i = 1; i < 512; i++) {
            y.worth(i % 5, i % 5, i % 100);
        }
        e.is("call 512: hire(5)", y.hire(5), 11 + 10 + 9 + 8 + 7);
        GuideWalksLast z = Scenes.busy();
        for (int i = 0; i < 400; i++) {
            z.keep(i % 3);
            e.is("a late refused call", z.keep(3), false);
            i++;
        }
        e.is("again(0)", z.again(0), true);
    }

    private static void wideAndHigh(Edges e) {
        GuideWalksLast x = new GuideWalksLast();
        e.moor(x, ".", 1);
        e.moor(x, "......", 6);
        e.moor(x, "./././././.", 6);
        e.is("WIDE", x.count(1), 1);
        e.moor(x, ALL_FIRM, 36);
        e.is("WIDE", x.count(1), 6);
        e.moor(x, ".......", -7);
        e.moor(x, "././././././.", -13);
        e.moor(x, "", -1);
        e.is("CELLS", x.count(0), 36);
    }

    private static void cellNumbers(Edges e) {
        e.kinds(e.on(".o/#H/o#", 0, 0), 0, 1, 2, 3, 1, 2);
        GuideWalksLast x = e.on("...../....H", 6, 1);
        e.steps(x, 1, 7, 0, 2, 2, 3, 2, 8, 0, 9);
        e.is("HOME", x.count(4), 2);
    }

    private static void longestMoor(Edges e) {
        GuideWalksLast x = new GuideWalksLast();
        e.moor(x, ALL_FIRM, 36);
        // 41 signs are the most that can stand
        e.moor(x, ALL_FIRM + ".", -42);
        e.moor(x, ALL_FIRM + "/", -43);
        e.moor(x, ALL_FIRM + "/..", -43);
        e.moor(x, ALL_FIRM + "/...", -43);
        e.moor(x, ALL_FIRM + "/" + ALL_FIRM.substring(3), -43);
        e.is("CELLS", x.count(0), 36);
    }

    private static void rowsOfOneLength(Edges e) {
        GuideWalksLast x = new GuideWalksLast();
        for (int wide = 1; wide <= 6; wide++) {
            String row = "o".repeat(wide);
            e.moor(x, row + "/" + row, 2 * wide);
            if (wide > 1) {
                e.moor(x, row + "/" + row.substring(1), -2 * wide - 1);
            }
            if (wide < 6) {
                e.moor(x, row + "/o" + row, -2 * wide - 2);
            }
        }
        e.moor(x, "./", -3);
        e.moor(x, "/.", -1);
    }

    private static void anyManyHomes(Edges e) {
        GuideWalksLast x = new GuideWalksLast();
        e.moor(x, "H", 1);
        e.moor(x, ALL_FIRM.replace('.', 'H'), 36);
        e.is("way() at HOME", x.way(), 0);
        e.moor(x, "H.H.H.", 6);
        e.moor(x, ".", 1);
        e.is("way(), none", x.way(), -2);
    }

    private static void headings(Edges e) {
        int[] cells = {1, 5, 7, 3};
        for (int heading = 0; heading <= 3; heading++) {
            GuideWalksLast x = e.on(".../.../...", 4, heading);
            e.steps(x, 1, cells[heading]);
            e.is("HEADING", x.count(3), heading);
        }
    }

    private static void weightsAtFirst(Edges e) {
        GuideWalksLast x = e.on(".../.../...", 4, 0);
        e.told(x, "behind(1, 1), on", x.behind(1, 1), 0, 1, 1, 1, 1);
        e.is("weights(10, 0)", x.weights(10, 0), true);
        e.told(x, "behind(3, 1), left", x.behind(3, 1), 0, 1, 1, 1, 1);
        e.is("weights(0, 0)", x.weights(0, 0), true);
        e.told(x, "behind(5, 1), right", x.behind(5, 1), 0, 1, 1, 1, 1);
        e.is("weights(1, 1)", x.weights(1, 1), true);
        e.told(x, "behind(5, 1), what is left of 10", x.behind(5, 1), 0, 4, 5, 1, 1);
    }

    private static void voiceAtFirst(Edges e) {
        GuideWalksLast x = new GuideWalksLast();
        for (int voice = 9; voice > 0; voice--) {
            e.is("VOICE", x.count(5), voice);
            e.is("ask(0)", x.ask(0), 0);
        }
        e.is("VOICE", x.count(5), 0);
        e.is("ask(0)", x.ask(0), -3);
        e.is("VOICE", x.count(5), 0);
    }

    private static void heardAtFirst(Edges e) {
        e.is("HEARD", new GuideWalksLast().set(1, 10), 10);
        GuideWalksLast x = e.on(".H", 0, 0);
        for (int heard = 0; heard <= 10; heard++) {
            e.is("set(1, " + heard + ")", x.set(1, heard), heard == 0 ? 10 : heard - 1);
            e.is("best(1)", x.best(1), 0);
            e.is("tenths", 10 * x.row(0) / x.row(1), heard);
        }
    }

    private static void turnsRound(Edges e) {
        GuideWalksLast x = new GuideWalksLast();
        for (int heading : new int[] {3, 2, 1, 0, 3}) {
            e.steps(x, 0, 0);
            e.is("HEADING, left", x.count(3), heading);
        }
        for (int heading : new int[] {0, 1, 2, 3, 0}) {
            e.steps(x, 2, 0);
            e.is("HEADING, right", x.count(3), heading);
        }
        e.steps(x, 1, 0);
        e.is("HEADING, on", x.count(3), 0);
    }

    private static void stays(Edges e) {
        for (String moor : new String[] {".../.../...", ".#./#.#/.#."}) {
            for (int heading = 0; heading <= 3; heading++) {
                boolean isOpen = moor.indexOf('#') < 0;
                int c = isOpen ? new int[] {1, 5, 7, 3}[heading] : 4;
                for (int turn = 0; turn <= 2; turn++) {
                    GuideWalksLast x = e.on(moor, c, heading + 5 - turn & 3);
                    e.is("step(" + turn + ") from " + c, x.step(turn), c);
                    e.is("HEADING is turned", x.count(3), heading);
                    e.is("STEPS", x.count(6), 1);
                }
            }
        }
        // not round the ends of rows
        GuideWalksLast x = e.on("..../....", 3, 1);
        e.steps(x, 1, 3);
        e.is("go(4, 3)", x.go(4, 3), true);
        e.steps(x, 1, 4);
        e.is("go(1, 0)", x.go(1, 0), true);
        e.steps(x, 1, 1);
    }

    private static void stepsNotOn(Edges e) {
        GuideWalksLast x = e.on("oH.", 2, 3);
        e.steps(x, 1, 1);
        e.is("HOME", x.count(4), 2);
        e.is("step(1)", x.step(1), -2);
        e.is("alone()", x.alone(), -2);
        e.is("ask(1)", x.ask(1), -2);
        e.is("put(2, 1)", x.put(2, 1), 0);
        e.moor(x, ".o.", 3);
        e.is("go(0, 1)", x.go(0, 1), true);
        e.steps(x, 1, 1);
        e.is("SUNK", x.count(4), 1);
        e.is("step(1)", x.step(1), -2);
        e.is("alone()", x.alone(), -2);
        e.is("ask(1)", x.ask(1), -2);
        e.is("STEPS", x.count(6), 1);
        e.is("CELL", x.count(2), 1);
    }

    private static void asks(Edges e) {
        GuideWalksLast x = new GuideWalksLast();
        e.is("set(0, 1)", x.set(0, 1), 9);
        e.is("ask(1), VOICE 1", x.ask(1), 0);
        e.is("VOICE", x.count(5), 0);
        e.is("ask(1), VOICE 0", x.ask(1), -3);
        e.is("askings", x.count(7), 1);
        e.is("STEPS", x.count(6), 1);
    }

    private static void heardOrNot(Edges e) {
        for (int drawn = 0; drawn <= 9; drawn++) {
            for (int heard : new int[] {0, drawn, drawn + 1, 10}) {
                GuideWalksLast x = e.on(".../.../...", 4, 0);
                e.is("set(1, " + heard + ")", x.set(1, heard), 10);
                e.is("seed", x.seed(Scenes.seedFor(drawn)), 1);
                boolean isHeard = drawn < heard;
                e.told(x, "ask(0), " + drawn + " of " + heard, x.ask(0), isHeard ? 3 : 1,
                    isHeard ? 1 : 0, isHeard ? 0 : 1);
                e.is("VOICE, heard or not", x.count(5), 8);
            }
        }
    }

    private static void asksNot(Edges e) {
        int[] cells = {3, 1, 5};
        for (int turn = 0; turn <= 2; turn++) {
            GuideWalksLast x = e.on(".../.../...", 4, 0);
            e.is("weights", x.weights(turn == 0 ? 10 : 0, turn == 1 ? 10 : 0), true);
            e.told(x, "alone()", x.alone(), cells[turn], turn);
            e.is("VOICE", x.count(5), 9);
        }
    }

    private static void drawsWrap(Edges e) {
        GuideWalksLast x = new GuideWalksLast();
        long random = 1;
        e.is("R at first", x.seed(1), 1);
        for (int i = 0; i < 100; i++) {
            x.alone();
            random = random * 1103515245L + 12345 & 0xffffffffL;
            int now = (int) random;
            e.is("R behind DRAW " + (i + 1), x.seed(now), now);
        }
    }

    private static void drawsWithoutSign(Edges e) {
        for (int v = -200; v < 200; v++) {
            long random = v * 1103515245L + 12345 & 0xffffffffL;
            int drawn = (int) (random / 65536 % 10);
            for (int left : new int[] {drawn, drawn + 1}) {
                GuideWalksLast x = new GuideWalksLast();
                x.weights(left, 0);
                x.seed(v);
                x.alone();
                e.is("TURN of " + drawn + " by " + left, x.row(0), drawn < left ? 0 : 2);
            }
        }
    }

    private static void drawsByWeight(Edges e) {
        for (int left = 0; left <= 10; left++) {
            for (int on = 0; on <= 10 - left; on++) {
                for (int drawn = 0; drawn <= 9; drawn++) {
                    GuideWalksLast x = new GuideWalksLast();
                    x.weights(left, on);
                    x.seed(Scenes.seedFor(drawn));
                    x.alone();
                    e.is(drawn + " by " + left + ", " + on, x.row(0), drawn < left ? 0 : drawn < left + on ? 1 : 2);
                }
            }
        }
    }

    private static void feeOf30(Edges e) {
        GuideWalksLast x = new GuideWalksLast();
        e.is("owed() at first", x.owed(), 0);
        e.told(x, "greed(5) at first", x.greed(5), 0, 0, 1, 0, 1);
        e.fee(x, "9+9+9+9+9+9+9+9+9+9+9+9+9+9+99", 0);
        e.is("owed() of 30 signs", x.owed(), 14 * 9 + 99);
        e.fee(x, "9+9+9+9+9+9+9+9+9+9+9+9+9+9+9+9", -31);
        e.is("owed()", x.owed(), 14 * 9 + 99);
    }

    private static int owed(Edges e, String fee) {
        GuideWalksLast x = new GuideWalksLast();
        e.steps(x, 1, 0, 1, 0);
        e.is("ask(1)", x.ask(1), 0);
        e.fee(x, fee, 0);
        return x.owed();
    }

    private static void feeFromTheLeft(Edges e) {
        e.is("9-5-3", owed(e, "9-5-3"), 1);
        e.is("9-5+3", owed(e, "9-5+3"), 7);
        e.is("1-9+2", owed(e, "1-9+2"), -6);
        e.is("5-2*s-3", owed(e, "5-2*s-3"), -4);
        e.is("0-s-a+s", owed(e, "0-s-a+s"), -1);
        GuideWalksLast x = new GuideWalksLast();
        e.fee(x, "+1", -1);
        e.fee(x, "-1", -1);
        e.fee(x, "1+", -3);
        e.fee(x, "1+-1", -3);
    }

    private static void feeDigits(Edges e) {
        for (String number : new String[] {"0", "9", "00", "09", "10", "99"}) {
            e.is(number, owed(e, number), Integer.parseInt(number));
            e.is(number + "*s", owed(e, number + "*s"), 3 * Integer.parseInt(number));
        }
        GuideWalksLast x = new GuideWalksLast();
        e.fee(x, "100", -3);
        e.fee(x, "000", -3);
        e.fee(x, "100*s", -3);
        e.fee(x, "*s", -1);
    }

    private static void feeLetters(Edges e) {
        e.is("s", owed(e, "s"), 3);
        e.is("a", owed(e, "a"), 1);
        e.is("99*a", owed(e, "99*a"), 99);
        e.is("0*s", owed(e, "0*s"), 0);
        GuideWalksLast x = new GuideWalksLast();
        e.fee(x, "s*2", -2);
        e.fee(x, "2s", -2);
        e.fee(x, "2*2", -3);
        e.fee(x, "s*a", -2);
        e.fee(x, "2*", -3);
        e.fee(x, "S", -1);
        e.fee(x, "o", -1);
    }

    private static void feeMeans(Edges e) {
        GuideWalksLast x = e.on("o.H", 1, 0);
        String[] fees = {"h", "x", "s", "a"};
        int[][] want = {{0, 0, 0, 0}, {1, 0, 1, 1}, {0, 1, 2, 0}};
        for (int ending = 0; ending < 3; ending++) {
            e.is("go(1, 0)", x.go(1, 0), true);
            if (ending == 1) {
                e.is("ask(2)", x.ask(2), 2);
            } else if (ending == 2) {
                e.steps(x, 1, 1, 0, 0);
            }
            for (int i = 0; i < 4; i++) {
                e.fee(x, fees[i], 0);
                e.is(fees[i], x.owed(), want[ending][i]);
            }
        }
    }

    /** What tells no ROW leaves it as it was, taken or refused. */
    private static void rowToldLast(Edges e) {
        Edges.Call[] calls = {x -> x.sign(0), x -> x.end(0) ? 1 : 0, GuideWalksLast::moor, GuideWalksLast::fee,
            x -> x.cell(0), x -> x.put(0, 0), x -> x.go(0, 0) ? 1 : 0, x -> x.weights(0, 0) ? 1 : 0, x -> x.set(0, 0),
            x -> x.sheet(0, 0, 0, 0), x -> x.step(1), GuideWalksLast::undo, x -> x.fewest(8, 50), x -> x.should(8),
            x -> x.loud(8, 50), GuideWalksLast::owed, x -> x.shelf(0) ? 1 : 0, x -> x.track(8), GuideWalksLast::rain,
            x -> x.meant(5, 0, 0, -1), x -> x.print(11, 0), GuideWalksLast::wipe, x -> x.worth(0, 0, 1),
            x -> x.hoarse(0, 5), x -> x.seed(0), x -> x.keep(0) ? 1 : 0, x -> x.again(1) ? 1 : 0, x -> x.count(10)};
        for (int i = 0; i < calls.length; i++) {
            GuideWalksLast x = Scenes.busy();
            calls[i].of(x);
            e.is("call " + i, x.count(10), 3);
            e.row(x, 1, 0, 2);
        }
        GuideWalksLast x = Scenes.busy();
        e.is("best(0)", x.best(0), 0);
        e.row(x, 0, 1);
        e.is("hire(5)", x.hire(5) > 0, true);
        e.is("count(10)", x.count(10), 5);
        e.is("alone()", x.alone() >= 0, true);
        e.is("count(10)", x.count(10), 1);
    }

    private static void rowsCompared(Edges e) {
        // 0, 2 is less than 1, 0: the first number tells
        GuideWalksLast x = new GuideWalksLast();
        x.worth(2, 1, 5);
        x.worth(0, 1, 5);
        x.worth(1, 0, 0);
        e.told(x, "hire(3)", x.hire(3), 5, 0, 2, 1);
        x.worth(1, 2, 3);
        x.worth(2, 0, 3);
        e.told(x, "hire(3)", x.hire(3), 11, 2, 0, 1);
        GuideWalksLast y = e.on(".H/..", 2, 1);
        // left at once, then right; or on and left: both are 2
        e.told(y, "way()", y.way(), 2, 0, 2);
    }

    private static void fractions(Edges e) {
        GuideWalksLast x = e.on(".H", 0, 0);
        e.is("weights(2, 3)", x.weights(2, 3), true);
        e.told(x, "never(1), 5 of 10", x.never(1), 0, 1, 2, 0, 1);
        e.is("weights(4, 2)", x.weights(4, 2), true);
        e.told(x, "never(1), 4 of 10", x.never(1), 0, 2, 5, 0, 1);
        e.is("weights(3, 4)", x.weights(3, 4), true);
        e.told(x, "never(1), 3 of 10", x.never(1), 0, 3, 10, 0, 1);
        e.is("weights(0, 0)", x.weights(0, 0), true);
        e.told(x, "never(1), all", x.never(1), 0, 1, 1, 0, 1);
        e.is("weights(0, 10)", x.weights(0, 10), true);
        e.told(x, "never(1), none", x.never(1), 0, 0, 1, 0, 1);
        e.fee(x, "0-99", 0);
        e.is("set(0, 0)", x.set(0, 0), 9);
        e.told(x, "greed(5), whole and below 0", x.greed(5), 0, -99, 1, 0, 1);
        e.fee(x, "0-2*h", 0);
        e.is("weights(5, 0)", x.weights(5, 0), true);
        e.told(x, "greed(1), -2 of 2", x.greed(1), 0, -1, 1, 1, 2);
        e.told(x, "greed(3), -6 of 4", x.greed(3), 0, -3, 2, 3, 4);
        e.told(x, "behind(0, 1)", x.behind(0, 1), 0, 1, 2, 1, 1);
    }

    private static void textIsEmptied(Edges e) {
        Edges.Call[] readers = {GuideWalksLast::moor, GuideWalksLast::fee, GuideWalksLast::look};
        for (Edges.Call reader : readers) {
            for (String text : new String[] {"?", "..?", "1+1+?", "ll?", "?".repeat(80)}) {
                GuideWalksLast x = Scenes.busy();
                e.text(x, text);
                e.is("read '" + text + "'", reader.of(x) < 0, true);
                e.is("count(11)", x.count(11), 0);
                GuideWalksLast y = Scenes.busy();
                e.is("end(0)", y.end(0), true);
                e.same("read '" + text + "'", x, y);
            }
        }
        String[] good = {"..", "1+h", "lor"};
        for (int i = 0; i < 3; i++) {
            GuideWalksLast x = Scenes.busy();
            e.text(x, good[i]);
            e.is("read '" + good[i] + "'", readers[i].of(x) >= 0, true);
            e.is("count(11)", x.count(11), 0);
        }
        // those that read none leave it
        GuideWalksLast x = Scenes.busy();
        e.is("put(99, 0)", x.put(99, 0), NONE);
        e.is("sheet(4, 0, 0, 0)", x.sheet(4, 0, 0, 0), NONE);
        e.is("go(99, 0)", x.go(99, 0), false);
        e.is("count(11)", x.count(11), 2);
    }

    private static void noneAhead(Edges e) {
        GuideWalksLast x = Scenes.muteAndSunk();
        e.is("step(3) of the SUNK", x.step(3), NONE);
        e.is("step(2) of the SUNK", x.step(2), -2);
        e.is("ask(3) of the SUNK, no VOICE", x.ask(3), NONE);
        e.is("ask(2) of the SUNK, no VOICE", x.ask(2), -2);
        e.is("ask(3), no VOICE", Scenes.mute().ask(3), NONE);
        e.is("ask(2), no VOICE", Scenes.mute().ask(2), -3);
        e.is("should(0) of the SUNK", x.should(0), NONE);
        e.is("should(9) of the SUNK", x.should(9), NONE);
        e.is("should(8) of the SUNK", x.should(8), -2);
        e.is("fewest(9, 100) of the SUNK", x.fewest(9, 100), NONE);
        e.is("fewest(8, 101) of the SUNK", x.fewest(8, 101), NONE);
        e.is("fewest(8, 100) of the SUNK", x.fewest(8, 100), -2);
        e.is("loud(9, 100) of the SUNK", x.loud(9, 100), NONE);
        e.is("loud(8, 101) of the SUNK", x.loud(8, 101), NONE);
        e.is("loud(8, 100) of the SUNK", x.loud(8, 100), -2);
        e.is("sheet(4, -1, 0, 0)", x.sheet(4, -1, 0, 0), NONE);
        e.is("sheet(-1, -1, 0, 0)", x.sheet(-1, -1, 0, 0), NONE);
        e.is("sheet(3, 37, 0, 0)", x.sheet(3, 37, 0, 0), NONE);
        e.is("sheet(2, -1, 0, 0)", x.sheet(2, -1, 0, 0), -2);
        e.is("sheet(3, -1, 0, 0)", x.sheet(3, -1, 0, 0), -3);
        GuideWalksLast y = new GuideWalksLast();
        e.is("fairest(6), none is there", y.fairest(6), NONE);
        e.is("fairest(5), none is there", y.fairest(5), -2);
        e.is("lies(), no print and so no row", y.lies(), NONE);
    }

    private static void chanceLengths(Edges e) {
        for (int n = -1; n <= 9; n++) {
            boolean isTaken = n >= 0 && n <= 8;
            GuideWalksLast x = Scenes.busy();
            e.is("never(" + n + ")", x.never(n), isTaken ? 0 : NONE);
            e.is("best(" + n + ")", x.best(n), isTaken ? 0 : NONE);
            e.is("fewest(" + n + ", 0)", x.fewest(n, 0), isTaken ? 0 : NONE);
            e.is("should(" + n + ")", x.should(n) == NONE, n < 1 || n > 8);
            e.is("safest(" + n + ")", x.safest(n), isTaken ? 0 : NONE);
            e.is("perils(" + n + ")", x.perils(n) == NONE, !isTaken);
            e.is("behind(0, " + n + ")", x.behind(0, n), isTaken ? 0 : NONE);
            e.is("loud(" + n + ", 0)", x.loud(n, 0), isTaken ? 0 : NONE);
        }
        // over the BOG to HOME: SUNK it stays so
        GuideWalksLast x = e.on(".oH", 0, 1);
        e.told(x, "never(1)", x.never(1), 0, 0, 1, 1, 1);
        e.told(x, "never(8)", x.never(8), 0, 0, 1, 1, 1);
        e.told(x, "behind(1, 8)", x.behind(1, 8), 0, 1, 1, 1, 1);
        // over HOME to the BOG: HOME it stays so
        GuideWalksLast y = e.on(".Ho", 0, 1);
        e.told(y, "never(8)", y.never(8), 0, 1, 1, 0, 1);
        e.told(y, "behind(1, 8)", y.behind(1, 8), 0, 1, 1, 1, 1);
        e.told(y, "safest(8)", y.safest(8), 0, 1, 1);
    }

    private static void feesNotNeeded(Edges e) {
        GuideWalksLast x = e.on(".H", 0, 1);
        e.fee(x, "s+10*h", 0);
        e.is("set(0, 0)", x.set(0, 0), 9);
        for (int n = 0; n <= 5; n++) {
            e.told(x, "greed(" + n + ")", x.greed(n), 0, n == 0 ? 0 : 11, 1, n == 0 ? 0 : 1, 1);
        }
        e.moor(x, ".o", 2);
        e.is("go(0, 1)", x.go(0, 1), true);
        e.fee(x, "s-10*x", 0);
        for (int n = 0; n <= 5; n++) {
            e.told(x, "greed(" + n + ")", x.greed(n), 0, n == 0 ? 0 : -9, 1, 0, 1);
        }
        e.moor(x, "..", 2);
        e.told(x, "greed(5), all needed", x.greed(5), 0, 5, 1, 0, 1);
    }
}
