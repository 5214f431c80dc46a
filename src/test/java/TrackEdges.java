/** Promises 32 to 37. */
final class TrackEdges {
    private static final int NONE = Edges.NONE;
    private static final int MIN = Edges.MIN;
    private static final int MAX = Edges.MAX;
    private static final int[] NO_CELLS = {12, 13, 36, -1, MIN, MAX};
    private static final String ALL_FIRM = "....../....../....../....../....../......";

    private TrackEdges() {
    }

    static void tests(Edges e) {
        e.test(32, "TRACKS are left by each STEP from a CELL to another one", TrackEdges::trackToAnother);
        e.test(32, "(there, the latest counts).", TrackEdges::trackLatest);
        e.test(32, "Where they lead from a CELL: that other one.", TrackEdges::trackEverywhere);
        e.test(32, "NONE: none, none such.", TrackEdges::trackNone);
        e.test(33, "Rain: no TRACKS any more: how many there were.", TrackEdges::rainMany);
        e.test(34, "One follows TRACKS from a CELL, one behind the other: the CELL where they end",
            TrackEdges::followToTheEnd);
        e.test(34, "(or come round to one where it was: that one)", TrackEdges::followRound);
        e.test(34, "the ROW: how many STEPS, 0, 1 if that is a BOG, 2 if HOME, 3 if they come round.",
            TrackEdges::followRow);
        e.test(34, "NONE: none such.", TrackEdges::followNone);
        e.test(35, "The first CELL with TRACKS, such as end in a BOG, or come round, if one follows them",
            TrackEdges::warnedFirst);
        e.test(35, ", but from which there is a way() to HOME by some HEADING: it", TrackEdges::warnedOfAWay);
        e.test(35, "the ROW: how many such CELLS.", TrackEdges::warnedMany);
        e.test(35, "-2: none.", TrackEdges::warnedNone);
        soundTests(e);
    }

    private static void soundTests(Edges e) {
        e.test(36, "The most words of n sounds (1 .. 5; two sounds, as bits, the first the highest)",
            TrackEdges::codesSounds);
        e.test(36, "of which each two are unlike in d (1 .. n) places or more: how many", TrackEdges::codesPlaces);
        e.test(36, "the ROW: they, rising: of as many the least row (the first 16).", TrackEdges::codesFirst16);
        e.test(36, "NONE: others.", TrackEdges::codesRefused);
        e.test(37, "What was meant by a word of n sounds of which some were lost (bits: lost), of a told list of words"
            + " (bits of words 0 .. 31, n 1 .. 5)", TrackEdges::meantSounds);
        e.test(37, "those words of the list (bits) that are alike to it where nothing was lost.",
            TrackEdges::meantLost);
        e.test(37, "NONE: others (a word, lost ones, words of the list beyond n sounds, too).",
            TrackEdges::meantRefused);
    }

    /** Goes to CELLS beside it, one by one; it never turns round. */
    private static void walk(Edges e, GuideWalksLast x, int... cells) {
        for (int c : cells) {
            int off = c - x.count(2);
            int wide = x.count(1);
            int heading = off == -wide ? 0 : off == wide ? 2 : off == 1 ? 1 : 3;
            int turn = heading - x.count(3) + 1 & 3;
            e.is("step(" + turn + ")", x.step(turn), c);
        }
    }

    private static void trackToAnother(Edges e) {
        GuideWalksLast x = e.on("..#", 0, 0);
        e.steps(x, 1, 0, 0, 0, 0, 0);
        e.is("track(0), it stayed", x.track(0), NONE);
        e.steps(x, 0, 1);
        e.is("track(0)", x.track(0), 1);
        e.steps(x, 1, 1);
        e.is("track(1), against the STONE", x.track(1), NONE);
        GuideWalksLast y = e.on("o.H", 1, 0);
        e.steps(y, 0, 0);
        e.is("track(1) to a BOG", y.track(1), 0);
        e.is("go(1, 0)", y.go(1, 0), true);
        e.is("ask(2)", y.ask(2), 2);
        e.is("track(1) to HOME", y.track(1), 2);
        e.is("track(2)", y.track(2), NONE);
        GuideWalksLast z = e.on("..", 0, 1);
        e.is("alone()", z.alone(), 1);
        e.is("track(0)", z.track(0), 1);
    }

    private static void trackLatest(Edges e) {
        GuideWalksLast x = e.on("../..", 0, 0);
        e.steps(x, 2, 1, 2, 3, 2, 2, 2, 0);
        e.is("track(0)", x.track(0), 1);
        e.steps(x, 1, 0);
        e.is("track(0), it stayed", x.track(0), 1);
        e.is("go(0, 1)", x.go(0, 1), true);
        e.is("track(0), go() leaves none", x.track(0), 1);
        e.steps(x, 2, 2);
        e.is("track(0), the latest", x.track(0), 2);
        e.is("track(2)", x.track(2), 0);
        e.is("track(3)", x.track(3), 2);
    }

    /** Once round all 36 CELLS, each beside the next one. */
    private static int[] round() {
        int[] cells = new int[36];
        int many = 0;
        for (int column = 1; column < 6; column++) {
            cells[many++] = column;
        }
        for (int row = 1; row < 5; row++) {
            for (int i = 1; i < 6; i++) {
                cells[many++] = row * 6 + (row % 2 == 1 ? 6 - i : i);
            }
        }
        for (int column = 5; column >= 0; column--) {
            cells[many++] = 30 + column;
        }
        for (int row = 4; row >= 0; row--) {
            cells[many++] = row * 6;
        }
        return cells;
    }

    private static void trackEverywhere(Edges e) {
        GuideWalksLast x = e.on(ALL_FIRM, 0, 1);
        int[] round = round();
        walk(e, x, round);
        int from = 0;
        for (int to : round) {
            e.is("track(" + from + ")", x.track(from), to);
            from = to;
        }
    }

    private static void trackNone(Edges e) {
        e.is("track(8)", Scenes.busy().track(8), 9);
        e.unchanged(Scenes::busy, "track(0) of none", x -> x.track(0), NONE);
        e.unchanged(Scenes::busy, "track(11) of none", x -> x.track(11), NONE);
        for (int c : NO_CELLS) {
            e.unchanged(Scenes::busy, "track(" + c + ")", x -> x.track(c), NONE);
        }
        e.onlyTells("track(8)", x -> x.track(8));
    }

    private static void rainMany(Edges e) {
        GuideWalksLast x = new GuideWalksLast();
        e.is("rain() of none", x.rain(), 0);
        GuideWalksLast y = e.on(ALL_FIRM, 0, 1);
        walk(e, y, round());
        e.is("rain() of all", y.rain(), 36);
        for (int c = 0; c < 36; c++) {
            e.is("track(" + c + ")", y.track(c), NONE);
        }
        e.is("rain() again", y.rain(), 0);
        e.is("STEPS stay", y.count(6), 36);
        e.is("count(8)", y.count(8), 20);
        GuideWalksLast z = e.on("..", 0, 1);
        e.steps(z, 1, 1);
        e.is("rain() of one", z.rain(), 1);
        e.steps(z, 0, 1, 0, 0);
        e.is("rain() of those since", z.rain(), 1);
    }

    private static void followToTheEnd(Edges e) {
        GuideWalksLast x = e.on(ALL_FIRM, 0, 1);
        int[] round = round();
        walk(e, x, java.util.Arrays.copyOf(round, 35));
        e.told(x, "follow(0), through all CELLS", x.follow(0), round[34], 35, 0);
        e.told(x, "follow(34)", x.follow(round[33]), round[34], 1, 0);
        e.told(x, "follow() of none", x.follow(round[34]), round[34], 0, 0);
        GuideWalksLast y = Scenes.sunk();
        e.told(y, "follow(0)", y.follow(0), 2, 2, 1);
        e.is("rain()", y.rain() > 0, true);
        e.told(y, "follow(0)", y.follow(0), 0, 0, 0);
    }

    private static void followRound(Edges e) {
        GuideWalksLast x = e.on(ALL_FIRM, 0, 1);
        walk(e, x, round());
        for (int c : new int[] {0, 1, 35}) {
            e.told(x, "follow(" + c + "), round all CELLS", x.follow(c), c, 36, 3);
        }
        GuideWalksLast y = e.on("../..", 0, 1);
        walk(e, y, 1, 3, 2);
        e.is("go(3, 2)", y.go(3, 2), true);
        walk(e, y, 2);
        e.is("go(2, 1)", y.go(2, 1), true);
        walk(e, y, 3);
        // 2 to 3 and back: the least round
        e.told(y, "follow(2)", y.follow(2), 2, 2, 3);
        e.told(y, "follow(0), not where it began", y.follow(0), 3, 4, 3);
    }

    private static void followRow(Edges e) {
        GuideWalksLast x = e.on("o.H", 1, 0);
        e.told(x, "follow(0), a BOG", x.follow(0), 0, 0, 1);
        e.told(x, "follow(1)", x.follow(1), 1, 0, 0);
        e.told(x, "follow(2), HOME", x.follow(2), 2, 0, 2);
        e.steps(x, 0, 0);
        e.told(x, "follow(1)", x.follow(1), 0, 1, 1);
        e.is("go(1, 0)", x.go(1, 0), true);
        e.steps(x, 2, 2);
        e.told(x, "follow(1)", x.follow(1), 2, 1, 2);
        e.is("put(1, 2)", x.put(1, 2), 0);
        e.told(x, "follow(1), a STONE since", x.follow(1), 2, 1, 2);
    }

    private static void followNone(Edges e) {
        e.is("follow(0)", Scenes.busy().follow(0), 0);
        e.is("follow(11)", Scenes.sunk().follow(11) >= 0, true);
        for (int c : NO_CELLS) {
            e.unchanged(Scenes::busy, "follow(" + c + ")", x -> x.follow(c), NONE);
        }
        e.onlyTells("follow(8)", x -> x.follow(8));
    }

    private static void warnedFirst(Edges e) {
        GuideWalksLast x = e.on("...o/...H", 0, 1);
        e.steps(x, 1, 1, 1, 2, 1, 3);
        e.told(x, "warned()", x.warned(), 0, 3);
        e.is("go(1, 2)", x.go(1, 2), true);
        walk(e, x, 5, 6, 7);
        // 0 and 1 come HOME now, 2 sinks
        e.told(x, "warned()", x.warned(), 2, 1);
        e.is("go(0, 2)", x.go(0, 2), true);
        walk(e, x, 4);
        e.is("go(4, 0)", x.go(4, 0), true);
        walk(e, x, 0);
        e.told(x, "warned() of a round", x.warned(), 0, 3);
        GuideWalksLast last = e.on("oH/..", 3, 3);
        e.steps(last, 1, 2, 2, 0);
        e.told(last, "warned(), the last CELL too", last.warned(), 2, 2);
        e.is("go(2, 1)", last.go(2, 1), true);
        walk(e, last, 3);
        e.told(last, "warned(), 3 and 2 a round", last.warned(), 2, 2);
    }

    private static void warnedOfAWay(Edges e) {
        GuideWalksLast x = e.on("o.H", 1, 3);
        e.steps(x, 1, 0);
        e.told(x, "warned()", x.warned(), 1, 1);
        e.is("put(2, 0)", x.put(2, 0), 3);
        e.is("warned(), no HOME", x.warned(), -2);
        e.is("put(2, 3)", x.put(2, 3), 0);
        e.is("warned()", x.warned(), 1);
        e.is("put(1, 1), a BOG since", x.put(1, 1), 0);
        e.is("warned(), SUNK it has no way()", x.warned(), -2);
        e.is("put(1, 3), HOME since", x.put(1, 3), 1);
        e.told(x, "warned(), way() is 0", x.warned(), 1, 1);
        GuideWalksLast y = e.on("ooo/H.o/ooo", 4, 1);
        e.is("way(), HOME is behind it", y.way(), -2);
        e.steps(y, 1, 5);
        e.told(y, "warned(), by other HEADINGS", y.warned(), 4, 1);
        e.is("put(3, 2)", y.put(3, 2), 3);
        e.is("warned(), by none", y.warned(), -2);
        GuideWalksLast z = e.on("ooo/o.o/oHo", 4, 0);
        e.is("way(), HOME is behind it", z.way(), -2);
        e.steps(z, 1, 1);
        e.told(z, "warned(), by other HEADINGS than up", z.warned(), 4, 1);
    }

    private static void warnedMany(Edges e) {
        GuideWalksLast x = e.on(ALL_FIRM, 0, 1);
        walk(e, x, round());
        e.is("go(7, 0)", x.go(7, 0), true);
        e.is("put(0, 3), HOME in the round", x.put(0, 3), 0);
        e.told(x, "warned(), all come round", x.warned(), 0, 36);
        e.is("put(0, 1)", x.put(0, 1), 3);
        e.is("put(35, 3)", x.put(35, 3), 0);
        e.told(x, "warned(), 0 has no way() any more", x.warned(), 1, 35);
    }

    private static void warnedNone(Edges e) {
        e.unchanged(Scenes::busy, "warned(), TRACKS end on firm ground", GuideWalksLast::warned, -2);
        e.unchanged(Scenes::home, "warned()", GuideWalksLast::warned, -2);
        e.unchanged(GuideWalksLast::new, "warned(), no TRACKS", GuideWalksLast::warned, -2);
        GuideWalksLast x = Scenes.sunk();
        e.told(x, "warned()", x.warned(), 0, 2);
        x.rain();
        e.is("warned(), rained off", x.warned(), -2);
        e.row(x, 2);
    }

    /** By the most of all sets of words, each held against each: for up to 4 sounds. */
    private static int mostWords(int n, int d) {
        int most = 0;
        int words = 1 << n;
        for (int set = 0; set < 1 << words; set++) {
            if (Integer.bitCount(set) > most && areApart(set, words, d)) {
                most = Integer.bitCount(set);
            }
        }
        return most;
    }

    private static boolean areApart(int set, int words, int d) {
        for (int a = 0; a < words; a++) {
            for (int b = 0; b < a; b++) {
                if ((set >> a & set >> b & 1) != 0 && Integer.bitCount(a ^ b) < d) {
                    return false;
                }
            }
        }
        return true;
    }

    private static void codesSounds(Edges e) {
        for (int n = 1; n <= 4; n++) {
            for (int d = 1; d <= n; d++) {
                e.is("codes(" + n + ", " + d + ")", new GuideWalksLast().codes(n, d), mostWords(n, d));
            }
        }
        int[] most = {32, 16, 4, 2, 2};
        for (int d = 1; d <= 5; d++) {
            e.is("codes(5, " + d + ")", new GuideWalksLast().codes(5, d), most[d - 1]);
        }
    }

    private static void codesPlaces(Edges e) {
        GuideWalksLast x = new GuideWalksLast();
        for (int n = 1; n <= 5; n++) {
            e.is("codes(" + n + ", 1), all", x.codes(n, 1), 1 << n);
            e.told(x, "codes(" + n + ", " + n + "), two", x.codes(n, n), 2, 0, (1 << n) - 1);
        }
        e.told(x, "codes(4, 3)", x.codes(4, 3), 2, 0, 7);
        e.told(x, "codes(4, 2)", x.codes(4, 2), 8, 0, 3, 5, 6, 9, 10, 12, 15);
    }

    private static void codesFirst16(Edges e) {
        GuideWalksLast x = new GuideWalksLast();
        e.told(x, "codes(4, 1), just 16", x.codes(4, 1), 16, 0, 1, 2, 3, 4, 5, 6, 7, 8, 9, 10, 11, 12, 13, 14, 15);
        e.told(x, "codes(5, 1), 32", x.codes(5, 1), 32, 0, 1, 2, 3, 4, 5, 6, 7, 8, 9, 10, 11, 12, 13, 14, 15);
        e.told(x, "codes(5, 2), just 16", x.codes(5, 2), 16,
            0, 3, 5, 6, 9, 10, 12, 15, 17, 18, 20, 23, 24, 27, 29, 30);
        e.told(x, "codes(5, 3), the least of as many", x.codes(5, 3), 4, 0, 7, 25, 30);
        e.told(x, "codes(1, 1)", x.codes(1, 1), 2, 0, 1);
    }

    private static void codesRefused(Edges e) {
        int[][] others = {{0, 1}, {0, 0}, {6, 1}, {6, 6}, {-1, 1}, {MIN, 1}, {MAX, 1}, {31, 1}, {32, 1}, {1, 0}, {1, 2},
            {5, 0}, {5, 6}, {4, 5}, {3, -1}, {3, 4}, {3, MIN}, {3, MAX}, {-2, -3}};
        for (int[] pair : others) {
            e.unchanged(Scenes::busy, "codes(" + pair[0] + ", " + pair[1] + ")", x -> x.codes(pair[0], pair[1]), NONE);
        }
        e.onlyTells("codes(5, 5)", x -> x.codes(5, 5));
    }

    private static void meantSounds(Edges e) {
        GuideWalksLast x = new GuideWalksLast();
        for (int n = 1; n <= 5; n++) {
            int words = 1 << n;
            int all = n == 5 ? -1 : (1 << words) - 1;
            for (int word : new int[] {0, 1, words - 1}) {
                e.is("meant(" + n + ", " + word + ", 0, all)", x.meant(n, word, 0, all), 1 << word);
                e.is("meant(" + n + ", " + word + ", all, all)", x.meant(n, word, words - 1, all), all);
                e.is("meant(" + n + ", " + word + ", 0, the others)", x.meant(n, word, 0, all ^ 1 << word), 0);
                e.is("meant(" + n + ", " + word + ", all, none)", x.meant(n, word, words - 1, 0), 0);
            }
        }
        e.is("meant(5, 31, 0, word 31)", x.meant(5, 31, 0, MIN), MIN);
        e.is("meant(5, 31, 1, words 30, 31)", x.meant(5, 31, 1, 3 << 30), 3 << 30);
    }

    private static void meantLost(Edges e) {
        GuideWalksLast x = new GuideWalksLast();
        e.is("meant(3, 5, 1, all)", x.meant(3, 5, 1, 255), 1 << 4 | 1 << 5);
        e.is("meant(3, 4, 1, all), as it came", x.meant(3, 4, 1, 255), 1 << 4 | 1 << 5);
        e.is("meant(3, 5, 4, all)", x.meant(3, 5, 4, 255), 1 << 5 | 1 << 1);
        e.is("meant(3, 5, 6, all)", x.meant(3, 5, 6, 255), 1 << 5 | 1 << 3 | 1 << 1 | 1 << 7);
        e.is("meant(3, 5, 6, some)", x.meant(3, 5, 6, 1 << 3 | 1 << 2), 1 << 3);
        e.is("meant(3, 5, 0, another one)", x.meant(3, 5, 0, 1 << 4), 0);
    }

    private static void meantRefused(Edges e) {
        int[][] others = {{0, 0, 0, 0}, {0, 0, 0, 1}, {6, 0, 0, 0}, {-1, 0, 0, 0}, {MIN, 0, 0, 0}, {MAX, 0, 0, 0},
            {32, 0, 0, 0}, {1, 2, 0, 0}, {4, 16, 0, 0}, {5, 32, 0, 0}, {5, -1, 0, 0}, {5, MIN, 0, 0}, {5, MAX, 0, 0},
            {1, 0, 2, 0}, {4, 0, 16, 0}, {5, 0, 32, 0}, {5, 0, -1, 0}, {5, 0, MIN, 0}, {5, 0, MAX, 0}, {1, 0, 0, 4},
            {2, 0, 0, 16}, {3, 0, 0, 256}, {4, 0, 0, 65536}, {1, 0, 0, -1}, {4, 0, 0, -1}, {4, 0, 0, MIN}};
        for (int[] o : others) {
            e.unchanged(Scenes::busy, "meant(" + o[0] + ", " + o[1] + ", " + o[2] + ", " + o[3] + ")",
                x -> x.meant(o[0], o[1], o[2], o[3]), NONE);
        }
        e.onlyTells("meant(5, 31, 31, -1)", x -> x.meant(5, 31, 31, -1));
    }
}
