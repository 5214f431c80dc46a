/** Each promise of the document: ordinary inputs, the edges that it names, and wrong inputs; worked out by hand. */
public final class PromisesTest {
    private static final int NONE = GuideWalksLast.NONE;
    private static final String MEADOW = "...H/.o..";
    private static final Due due = new Due("PromisesTest");

    public static void main(String[] args) {
        moorPromises();
        stepPromises();
        chancePromises();
        feePromises();
        trackPromises();
        soundPromises();
        printPromises();
        hirePromises();
        keptPromises();
        due.finish();
    }

    private static void moorPromises() {
        promise1();
        promise2();
        promise3();
        promise4();
        promise4Faults();
        promise5();
        promise5Faults();
        promise6();
        promise7();
        promise8();
        promise9();
        promise10();
        promise11();
    }

    private static void stepPromises() {
        promise12();
        promise13();
        promise14();
        promise15();
        promise15Ring();
        promise16();
        promise17();
        promise18();
    }

    private static void chancePromises() {
        promise19();
        promise20();
        promise21();
        promise22();
        promise23();
        promise24();
        promise25();
        promise26();
    }

    private static void feePromises() {
        promise27();
        promise28();
        promise29();
        promise30();
        promise31();
    }

    private static void trackPromises() {
        promise32();
        promise33();
        promise34();
        promise35();
    }

    private static void soundPromises() {
        promise36();
        promise37();
    }

    private static void printPromises() {
        promise38();
        promise39();
        promise40();
        promise41();
    }

    private static void hirePromises() {
        promise42();
        promise43();
        promise44();
    }

    private static void keptPromises() {
        promise45();
        promise46();
        promise47();
        promise47Refused();
        promise48();
        promise49();
    }

    /** All of count(), from what 0 on. */
    private static void counts(GuideWalksLast x, int... want) {
        for (int what = 0; what < want.length; what++) {
            due.is("count(" + what + ")", x.count(what), want[what]);
        }
    }

    private static void steps(GuideWalksLast x, int... turnsAndCells) {
        for (int i = 0; i < turnsAndCells.length; i += 2) {
            due.is("step(" + turnsAndCells[i] + ")", x.step(turnsAndCells[i]), turnsAndCells[i + 1]);
        }
    }

    private static void promise1() {
        due.begin("promise 1");
        GuideWalksLast x = new GuideWalksLast();
        counts(x, 1, 1, 0, 0, 0, 9, 0, 0, 0, 0, 0, 0);
        due.is("cell(0)", x.cell(0), 0);
        due.is("seed(1)", x.seed(1), 1);
        due.is("set(1, 10)", x.set(1, 10), 10);
        due.is("owed()", x.owed(), 0);
        due.is("alone()", x.alone(), 0);
        due.row(x, 1);
        due.is("fairest(0)", x.fairest(0), -2);
        due.is("worth(4, 4, 0)", x.worth(4, 4, 0), 0);
        for (int i = 0; i < 3; i++) {
            due.is("again(" + i + ")", x.again(i), false);
        }
    }

    private static void promise2() {
        due.begin("promise 2");
        GuideWalksLast x = new GuideWalksLast();
        due.is("sign lorx", x.sign(('l' << 24) + ('o' << 16) + ('r' << 8) + 'x'), 4);
        due.is("look()", x.look(), -4);
        due.is("sign .o#H", x.sign(('.' << 24) + ('o' << 16) + ('#' << 8) + 'H'), 4);
        due.is("moor()", x.moor(), 4);
        for (int c = 0; c < 4; c++) {
            due.is("cell(" + c + ")", x.cell(c), c);
        }
        for (int signs = 4; signs <= 80; signs += 4) {
            due.is("sign(-1)", x.sign(-1), signs);
        }
        due.is("sign(0)", x.sign(0), NONE);
        due.is("count(11)", x.count(11), 80);
        due.is("end(77)", x.end(77), true);
        due.is("sign(0)", x.sign(0), NONE);
        due.is("end(76)", x.end(76), true);
        due.is("sign(0)", x.sign(0), 80);
        GuideWalksLast y = new GuideWalksLast();
        due.is("sign with 129, 'l'", y.sign(0x816c6c6c), 4);
        due.is("look()", y.look(), -1);
    }

    private static void promise3() {
        due.begin("promise 3");
        GuideWalksLast x = new GuideWalksLast();
        due.is("end(0)", x.end(0), true);
        due.is("end(1)", x.end(1), false);
        due.is("sign", x.sign(('.' << 24) + ('.' << 16) + ('x' << 8)), 4);
        due.is("end(5)", x.end(5), false);
        due.is("end(-1)", x.end(-1), false);
        due.is("end(min)", x.end(Integer.MIN_VALUE), false);
        due.is("count(11)", x.count(11), 4);
        due.is("end(4)", x.end(4), true);
        due.is("end(2)", x.end(2), true);
        due.is("count(11)", x.count(11), 2);
        due.is("end(3)", x.end(3), false);
        due.is("moor()", x.moor(), 2);
        due.is("cell(1)", x.cell(1), 0);
    }

    private static void promise4() {
        due.begin("promise 4");
        GuideWalksLast x = due.on(MEADOW, 0, 1);
        counts(x, 8, 4, 0, 1, 0, 9, 0, 0, 0);
        steps(x, 1, 1, 1, 2);
        due.is("ask(0)", x.ask(0), 2);
        due.is("print(0, 0)", x.print(0, 0), 1);
        counts(x, 8, 4, 2, 0, 0, 8, 3, 1, 3, 1);
        due.moor(x, "./o/#/H", 4);
        counts(x, 4, 1, 0, 0, 0, 8, 0, 0, 0, 0);
        for (int c = 0; c < 4; c++) {
            due.is("cell(" + c + ")", x.cell(c), c);
            due.is("track(" + c + ")", x.track(c), NONE);
        }
        due.is("rain()", x.rain(), 0);
        due.moor(x, "o.", 2);
        due.is("SUNK", x.count(4), 1);
        due.is("step(1)", x.step(1), -2);
        due.moor(x, "H.", 2);
        due.is("HOME", x.count(4), 2);
        due.moor(x, "#.", 2);
        counts(x, 2, 2, 0, 0, 0);
        steps(x, 2, 1, 1, 1, 2, 1, 2, 1);
        due.is("track(0)", x.track(0), 1);
        due.moor(x, "HHHHHH/oooooo/######/....../H.H.H./.o.o.o", 36);
        counts(x, 36, 6, 0, 0, 2);
        due.is("cell(35)", x.cell(35), 1);
        due.is("cell(34)", x.cell(34), 0);
        due.is("cell(36)", x.cell(36), NONE);
        due.moor(x, "./././././.", 6);
        counts(x, 6, 1, 0, 0, 0);
        due.is("set(1, 3)", x.set(1, 3), 10);
        due.is("weights(0, 0)", x.weights(0, 0), true);
        due.fee(x, "7", 0);
        due.is("seed(5), one DRAW behind 1", x.seed(5), 1103527590);
        due.moor(x, "..", 2);
        due.is("alone() goes right", x.alone(), 1);
        due.is("set(1, 3)", x.set(1, 3), 3);
        due.is("owed()", x.owed(), 7);
    }

    private static void promise4Faults() {
        due.begin("promise 4, faults");
        GuideWalksLast x = due.on(MEADOW, 4, 3);
        steps(x, 2, 0);
        due.is("print(3, 2)", x.print(3, 2), 1);
        due.is("keep(0)", x.keep(0), true);
        due.moor(x, "", -1);
        due.moor(x, "/", -1);
        due.moor(x, "x", -1);
        due.moor(x, "h", -1);
        due.moor(x, "..x", -3);
        due.moor(x, ".\0", -2);
        due.moor(x, ".......", -7);
        due.moor(x, "....../.......", -14);
        due.moor(x, "../...", -6);
        due.moor(x, "../..//", -7);
        due.moor(x, "..//..", -4);
        due.moor(x, ".././..", -5);
        due.moor(x, "../.", -5);
        due.moor(x, "../", -4);
        due.moor(x, "././././././.", -13);
        due.moor(x, "././././././/", -13);
        due.moor(x, "././././././", -13);
        due.moor(x, "./././././.x", -12);
        due.moor(x, "....../....../....../....../....../....../..", -43);
        due.moor(x, "....../....../....../....../....../.......", -42);
        counts(x, 8, 4, 0, 0, 0, 9, 1, 0, 1, 1);
        due.is("again(0)", x.again(0), true);
    }

    private static int owedBy(String fee) {
        GuideWalksLast x = due.on(MEADOW, 0, 0);
        steps(x, 1, 0, 1, 0, 1, 0);
        due.is("ask(2)", x.ask(2), 1);
        due.is("ask(2)", x.ask(2), 5);
        due.fee(x, fee, 0);
        return x.owed();
    }

    /** It is SUNK behind 5 STEPS and 2 askings. */
    private static void promise5() {
        due.begin("promise 5");
        due.is("none", owedBy(""), 0);
        due.is("h", owedBy("h"), 0);
        due.is("x", owedBy("x"), 1);
        due.is("s", owedBy("s"), 5);
        due.is("a", owedBy("a"), 2);
        due.is("7", owedBy("7"), 7);
        due.is("07", owedBy("07"), 7);
        due.is("99", owedBy("99"), 99);
        due.is("9*s", owedBy("9*s"), 45);
        due.is("10*x", owedBy("10*x"), 10);
        due.is("00*s", owedBy("00*s"), 0);
        due.is("5-3-1", owedBy("5-3-1"), 1);
        due.is("1-2*s+a-3", owedBy("1-2*s+a-3"), -10);
        due.is("s+s-x", owedBy("s+s-x"), 9);
        due.is("a+a+3*a", owedBy("a+a+3*a"), 10);
        due.is("x-5*x", owedBy("x-5*x"), -4);
        due.is("30 signs", owedBy("1+1+1+1+1+1+1+1+1+1+1+1+1+1+12"), 26);
        due.is("30 signs", owedBy("99*s+99*s+99*s+99*s+99*s+99+99"), 25 * 99 + 198);
        GuideWalksLast x = new GuideWalksLast();
        due.fee(x, "4", 0);
        due.is("owed()", x.owed(), 4);
        due.fee(x, "", 0);
        due.is("owed()", x.owed(), 0);
    }

    private static void promise5Faults() {
        due.begin("promise 5, faults");
        GuideWalksLast x = new GuideWalksLast();
        due.fee(x, "42", 0);
        due.fee(x, "+", -1);
        due.fee(x, "-1", -1);
        due.fee(x, "*h", -1);
        due.fee(x, "H", -1);
        due.fee(x, " 1", -1);
        due.fee(x, "h+", -3);
        due.fee(x, "h+-1", -3);
        due.fee(x, "123", -3);
        due.fee(x, "12*", -4);
        due.fee(x, "1*", -3);
        due.fee(x, "1*2", -3);
        due.fee(x, "1**h", -3);
        due.fee(x, "1*h*2", -4);
        due.fee(x, "h*2", -2);
        due.fee(x, "h2", -2);
        due.fee(x, "hh", -2);
        due.fee(x, "1h", -2);
        due.fee(x, "s+1\0", -4);
        due.fee(x, "1+1+1+1+1+1+1+1+1+1+1+1+1+1+1+", -31);
        due.fee(x, "1+1+1+1+1+1+1+1+1+1+1+1+1+1+1+1", -31);
        due.fee(x, "1+1+1+1+1+1+1+1+1+1+1+1+1+1+12+", -31);
        due.fee(x, "1+1+1+1+1+1+1+1+1+1+1+1+1+1+12x", -31);
        due.fee(x, "1+1+1+1+1+1+1+1+1+1+1+1+1+1+1x+", -30);
        due.fee(x, "1+1+1+1+1+1+1+1+1+1+1+1+1+12++1+1", -30);
        due.is("owed()", x.owed(), 42);
    }

    private static void promise6() {
        due.begin("promise 6");
        GuideWalksLast x = due.on(".o/#H", 0, 0);
        int[] kinds = {0, 1, 2, 3};
        for (int c = 0; c < 4; c++) {
            due.is("cell(" + c + ")", x.cell(c), kinds[c]);
        }
        due.is("cell(4)", x.cell(4), NONE);
        due.is("cell(-1)", x.cell(-1), NONE);
        due.is("cell(max)", x.cell(Integer.MAX_VALUE), NONE);
        due.is("cell(min)", x.cell(Integer.MIN_VALUE), NONE);
    }

    private static void promise7() {
        due.begin("promise 7");
        GuideWalksLast x = due.on("...", 1, 1);
        steps(x, 1, 2);
        due.is("put(3, 0)", x.put(3, 0), NONE);
        due.is("put(-1, 0)", x.put(-1, 0), NONE);
        due.is("put(0, 4)", x.put(0, 4), NONE);
        due.is("put(0, -1)", x.put(0, -1), NONE);
        due.is("put(2, 1), THE PARTY is there", x.put(2, 1), NONE);
        due.is("put(2, 0), THE PARTY is there", x.put(2, 0), NONE);
        due.is("count(8)", x.count(8), 1);
        for (int what = 3; what >= 0; what--) {
            due.is("put(0, " + what + ")", x.put(0, what), what == 3 ? 0 : what + 1);
            due.is("cell(0)", x.cell(0), what);
        }
        due.is("count(8)", x.count(8), 0);
        counts(x, 3, 3, 2, 1, 0, 9, 1);
        due.is("track(1)", x.track(1), 2);
        due.is("put(1, 2)", x.put(1, 2), 0);
        due.is("go(0, 1)", x.go(0, 1), true);
        due.is("step(1) against the stone", x.step(1), 0);
        due.is("put(0, 1)", x.put(0, 1), NONE);
        due.is("undo()", x.undo(), 0);
        steps(x, 1, 0);
        due.is("put(1, 2) as it is", x.put(1, 2), 2);
        due.is("undo()", x.undo(), NONE);
    }

    private static void promise8() {
        due.begin("promise 8");
        GuideWalksLast x = due.on(".o#H.", 0, 1);
        due.is("ask(0)", x.ask(0), 0);
        due.is("go(1, 0)", x.go(1, 0), false);
        due.is("go(2, 0)", x.go(2, 0), false);
        due.is("go(3, 0)", x.go(3, 0), false);
        due.is("go(5, 0)", x.go(5, 0), false);
        due.is("go(-1, 0)", x.go(-1, 0), false);
        due.is("go(4, 4)", x.go(4, 4), false);
        due.is("go(4, -1)", x.go(4, -1), false);
        counts(x, 5, 5, 0, 0, 0, 8, 1, 1, 1);
        due.is("go(4, 3)", x.go(4, 3), true);
        counts(x, 5, 5, 4, 3, 0, 8, 0, 0, 0);
        steps(x, 1, 3);
        due.is("HOME", x.count(4), 2);
        due.is("go(4, 0) from HOME", x.go(4, 0), true);
        due.is("track(4)", x.track(4), 3);
        counts(x, 5, 5, 4, 0, 0, 8, 0, 0, 0);
    }

    private static void promise9() {
        due.begin("promise 9");
        GuideWalksLast x = due.on("...H", 0, 1);
        due.is("weights(-1, 5)", x.weights(-1, 5), false);
        due.is("weights(5, -1)", x.weights(5, -1), false);
        due.is("weights(11, 0)", x.weights(11, 0), false);
        due.is("weights(0, 11)", x.weights(0, 11), false);
        due.is("weights(5, 6)", x.weights(5, 6), false);
        due.is("weights(max, max)", x.weights(Integer.MAX_VALUE, Integer.MAX_VALUE), false);
        due.is("weights(min, max)", x.weights(Integer.MIN_VALUE, Integer.MAX_VALUE), false);
        due.is("behind(1, 1)", x.behind(1, 1), 0);
        due.row(x, 1, 1, 1, 1);
        due.is("weights(3, 5)", x.weights(3, 5), true);
        due.is("behind(1, 1)", x.behind(1, 1), 0);
        due.row(x, 1, 2, 1, 1);
        due.is("go(1, 2)", x.go(1, 2), true);
        due.is("behind(2, 1)", x.behind(2, 1), 0);
        due.row(x, 3, 10, 1, 1);
        due.is("behind(0, 1)", x.behind(0, 1), 0);
        due.row(x, 1, 5, 1, 1);
        due.is("weights(10, 0)", x.weights(10, 0), true);
        due.is("weights(0, 0)", x.weights(0, 0), true);
        due.is("alone()", x.alone(), 0);
        due.row(x, 2);
    }

    private static void promise10() {
        due.begin("promise 10");
        GuideWalksLast x = new GuideWalksLast();
        due.is("set(0, 0)", x.set(0, 0), 9);
        due.is("set(0, 9)", x.set(0, 9), 0);
        due.is("set(0, 10)", x.set(0, 10), NONE);
        due.is("set(0, -1)", x.set(0, -1), NONE);
        due.is("set(1, 0)", x.set(1, 0), 10);
        due.is("set(1, 10)", x.set(1, 10), 0);
        due.is("set(1, 11)", x.set(1, 11), NONE);
        due.is("set(1, -1)", x.set(1, -1), NONE);
        due.is("set(2, 1)", x.set(2, 1), NONE);
        due.is("set(-1, 1)", x.set(-1, 1), NONE);
        due.is("set(1, 4)", x.set(1, 4), 10);
        due.is("set(0, 3)", x.set(0, 3), 9);
        due.is("count(5)", x.count(5), 3);
        due.is("set(1, 4)", x.set(1, 4), 4);
    }

    private static void promise11() {
        due.begin("promise 11");
        GuideWalksLast x = due.on("..../....", 5, 0);
        due.is("sheet(-1, -1, 0, 0)", x.sheet(-1, -1, 0, 0), NONE);
        due.is("sheet(4, -1, 0, 0)", x.sheet(4, -1, 0, 0), NONE);
        due.is("sheet(0, 37, 0, 0)", x.sheet(0, 37, 0, 0), NONE);
        due.is("sheet(3, 37, 0, 0)", x.sheet(3, 37, 0, 0), NONE);
        due.is("sheet(2, 8, 0, 1)", x.sheet(2, 8, 0, 1), 5);
        kinds(x, 0, 1, 2, 3, 0, 0, 2, 3);
        steps(x, 1, 1);
        due.is("go(5, 0)", x.go(5, 0), true);
        steps(x, 0, 4);
        for (int kind = 0; kind < 3; kind++) {
            due.is("sheet(" + kind + ", -1, 1, 1)", x.sheet(kind, -1, 1, 1), -2);
        }
        kinds(x, 0, 1, 2, 3, 0, 0, 2, 3);
        due.is("count(8)", x.count(8), 1);
        due.is("sheet(0, 3, 255, -1)", x.sheet(0, 3, 255, -1), 3);
        kinds(x, 3, 2, 1, 0, 0, 0, 0, 0);
        due.is("count(8)", x.count(8), 0);
        due.is("sheet(1, 36, max, 1)", x.sheet(1, 36, Integer.MAX_VALUE, 1), 5);
        kinds(x, 3, 0, 1, 2, 0, 0, 1, 2);
        due.is("sheet(2, 36, -1, 0)", x.sheet(2, 36, -1, 0), 7);
        kinds(x, 3, 3, 3, 3, 0, 3, 3, 3);
        due.is("way() by the sheet", x.way(), 1);
        due.is("undo()", x.undo(), NONE);
        due.is("sheet(0, 0, 3, 0)", x.sheet(0, 0, 3, 0), 0);
        due.is("way() by the sheet", x.way(), -2);
        due.is("sheet(1, 8, 1, 2)", x.sheet(1, 8, 1, 2), 7);
        kinds(x, 1, 3, 1, 3, 0, 3, 1, 3);
        steps(x, 0, 4);
        due.is("sheet(3, -5, 1, 1)", x.sheet(3, -5, 1, 1), -3);
        kinds(x, 0, 0, 0, 0, 0, 0, 0, 0);
        due.is("undo()", x.undo(), NONE);
        due.moor(x, "H.", 2);
        due.is("sheet(0, 2, 2, 0)", x.sheet(0, 2, 2, 0), 2);
        kinds(x, 3, 2);
        due.is("sheet(3, 36, 0, 0)", x.sheet(3, 36, 0, 0), -3);
        kinds(x, 3, 0);
    }

    private static void kinds(GuideWalksLast x, int... want) {
        for (int c = 0; c < want.length; c++) {
            due.is("cell(" + c + ")", x.cell(c), want[c]);
        }
    }

    private static void promise12() {
        due.begin("promise 12");
        GuideWalksLast x = due.on("..#/..o/H..", 4, 0);
        due.is("seed(77)", x.seed(77), 1);
        steps(x, 3, NONE, -1, NONE, 1, 1);
        counts(x, 9, 3, 1, 0, 0, 9, 1, 0, 1);
        steps(x, 2, 1);
        counts(x, 9, 3, 1, 1, 0, 9, 2, 0, 2);
        steps(x, 0, 1, 0, 0, 1, 0, 0, 3, 0, 4, 1, 5);
        counts(x, 9, 3, 5, 1, 1, 9, 8, 0, 8);
        steps(x, 1, -2, 0, -2, 2, -2, 3, NONE, -1, NONE);
        counts(x, 9, 3, 5, 1, 1, 9, 8, 0, 8, 0, 0);
        due.is("go(8, 3)", x.go(8, 3), true);
        steps(x, 1, 7, 1, 6, 1, -2);
        due.is("HOME", x.count(4), 2);
        due.is("seed(0)", x.seed(0), 77);
    }

    /** The first DRAWS of 10 from R 1 are 8, 6, 3, 3, 9, 5. */
    private static void promise13() {
        due.begin("promise 13");
        GuideWalksLast x = due.on(".../.../...", 4, 0);
        due.is("weights(4, 4)", x.weights(4, 4), true);
        due.is("alone() 8", x.alone(), 5);
        due.row(x, 2);
        due.is("seed(now)", x.seed(1103527590), 1103527590);
        due.is("alone() 6", x.alone(), 5);
        due.row(x, 1);
        due.is("seed(now)", x.seed((int) 2524885223L), (int) 2524885223L);
        due.is("alone() 3", x.alone(), 2);
        due.row(x, 0);
        due.is("alone() 3", x.alone(), 1);
        due.row(x, 0);
        due.is("weights(9, 0)", x.weights(9, 0), true);
        due.is("alone() 9", x.alone(), 1);
        due.row(x, 2);
        due.is("weights(5, 1)", x.weights(5, 1), true);
        due.is("alone() 5", x.alone(), 1);
        due.row(x, 1);
        counts(x, 9, 3, 1, 0, 0, 9, 6, 0, 6);
        due.moor(x, "o", 1);
        due.is("seed(3)", x.seed(3), (int) 2516284547L);
        due.is("alone()", x.alone(), -2);
        due.moor(x, "H", 1);
        due.is("alone()", x.alone(), -2);
        due.is("seed(3)", x.seed(3), 3);
        due.row(x, 1);
        counts(x, 1, 1, 0, 0, 2, 9, 0, 0, 0);
    }

    private static void promise14() {
        due.begin("promise 14");
        GuideWalksLast x = due.on(".../.../...", 4, 0);
        due.is("weights(4, 4)", x.weights(4, 4), true);
        due.is("set(1, 9)", x.set(1, 9), 10);
        due.is("ask(3)", x.ask(3), NONE);
        due.is("ask(-1)", x.ask(-1), NONE);
        due.is("ask(0) 8", x.ask(0), 3);
        due.row(x, 1, 0);
        counts(x, 9, 3, 3, 3, 0, 8, 1, 1, 1);
        due.is("set(1, 6)", x.set(1, 6), 9);
        due.is("ask(0) 6, 3", x.ask(2), 6);
        due.row(x, 0, 0);
        due.is("set(1, 4)", x.set(1, 4), 6);
        due.is("ask(0) 3", x.ask(0), 7);
        due.row(x, 1, 0);
        due.is("set(1, 9)", x.set(1, 9), 4);
        due.is("ask(0) 9, 5", x.ask(0), 8);
        due.row(x, 0, 1);
        counts(x, 9, 3, 8, 1, 0, 5, 4, 4, 4);
        due.is("set(1, 10)", x.set(1, 10), 9);
        due.is("set(0, 1)", x.set(0, 1), 5);
        due.is("ask(0)", x.ask(0), 5);
        due.row(x, 1, 0);
        due.is("ask(0)", x.ask(0), -3);
        due.is("ask(3)", x.ask(3), NONE);
        counts(x, 9, 3, 5, 0, 0, 0, 5, 5, 5);
        due.moor(x, "o", 1);
        due.is("ask(1)", x.ask(1), -2);
        due.is("ask(3)", x.ask(3), NONE);
        due.row(x, 1, 0);
        due.is("set(0, 3)", x.set(0, 3), 0);
        due.is("ask(1)", x.ask(1), -2);
        due.is("seed(0)", x.seed(0) == 1103527590, false);
        due.is("set(1, 0)", x.set(1, 0), 10);
        due.moor(x, "..", 2);
        due.is("weights(0, 10)", x.weights(0, 10), true);
        due.is("ask(2) unheard", x.ask(2), 0);
        due.row(x, 0, 1);
    }

    private static void promise15() {
        due.begin("promise 15");
        GuideWalksLast x = due.on(MEADOW, 0, 0);
        due.is("undo()", x.undo(), NONE);
        steps(x, 2, 1);
        due.is("ask(1)", x.ask(1), 2);
        due.is("alone()", x.alone(), 3);
        counts(x, 8, 4, 3, 1, 2, 8, 3, 1, 3);
        due.is("set(0, 2)", x.set(0, 2), 8);
        due.is("rain()", x.rain(), 3);
        due.is("undo()", x.undo(), 2);
        counts(x, 8, 4, 2, 1, 0, 8, 2, 1, 2);
        due.is("track(0)", x.track(0), 1);
        due.is("track(1)", x.track(1), 2);
        due.is("track(2)", x.track(2), NONE);
        due.is("seed(11)", x.seed(11), 1103527590);
        due.is("undo()", x.undo(), 1);
        counts(x, 8, 4, 1, 1, 0, 9, 1, 0, 1);
        due.is("seed(12)", x.seed(12), 1);
        due.is("undo()", x.undo(), 0);
        counts(x, 8, 4, 0, 0, 0, 9, 0, 0, 0);
        due.is("seed(13)", x.seed(13), 1);
        due.is("track(0)", x.track(0), NONE);
        due.is("undo()", x.undo(), NONE);
        steps(x, 2, 1, 2, 5);
        due.is("SUNK", x.count(4), 1);
        due.is("undo() of sinking", x.undo(), 1);
        counts(x, 8, 4, 1, 1, 0);
    }

    private static void promise15Ring() {
        due.begin("promise 15, of 20");
        GuideWalksLast x = due.on("..../....", 0, 0);
        int[] cells = new int[26];
        for (int i = 0; i < 25; i++) {
            cells[i] = x.count(2);
            due.is("step", x.step(2) >= 0, true);
            due.is("count(8)", x.count(8), Math.min(20, i + 1));
        }
        for (int i = 24; i >= 5; i--) {
            due.is("undo()", x.undo(), i - 5);
            due.is("count(2)", x.count(2), cells[i]);
            due.is("count(6)", x.count(6), i);
        }
        due.is("undo()", x.undo(), NONE);
        due.is("step(1)", x.step(1) >= 0, true);
        due.is("undo()", x.undo(), 0);
        due.is("count(6)", x.count(6), 5);
    }

    private static void promise16() {
        due.begin("promise 16");
        GuideWalksLast x = due.on(MEADOW, 0, 0);
        due.look(x, "", 0);
        due.row(x, 0, 0);
        due.look(x, "roolll", 3);
        due.row(x, 3, 2);
        due.look(x, "rr", 5);
        due.row(x, 2, 1);
        due.look(x, "rrx", -3);
        due.look(x, "rr\0", -3);
        due.look(x, "L", -1);
        due.row(x, 2, 1);
        due.look(x, "oooooooooooooooooooooooooooooo", 0);
        due.row(x, 30, 0);
        due.look(x, "ooooooooooooooooooooooooooooooo", -31);
        due.look(x, "ooooooooooooooooooooooooooooooxx", -31);
        due.look(x, "ooooooooooooooooooooooooooooo/oo", -30);
        due.look(x, "llr", 4);
        due.row(x, 3, 0);
        counts(x, 8, 4, 0, 0, 0, 9, 0, 0, 0);
        due.is("rain()", x.rain(), 0);
        due.moor(x, "o", 1);
        due.look(x, "lll", 0);
        due.row(x, 0, 1);
        due.moor(x, "H", 1);
        due.look(x, "lll", 0);
        due.row(x, 0, 2);
        due.look(x, "lly", -3);
    }

    private static void promise17() {
        due.begin("promise 17");
        GuideWalksLast x = due.on(MEADOW, 0, 0);
        due.is("way()", x.way(), 3);
        due.row(x, 2, 1, 1);
        due.is("go(0, 3)", x.go(0, 3), true);
        due.is("way()", x.way(), 4);
        due.row(x, 2, 2, 1, 1);
        due.is("go(4, 3)", x.go(4, 3), true);
        due.is("way()", x.way(), 4);
        due.row(x, 2, 2, 1, 1);
        due.is("put(3, 1)", x.put(3, 1), 3);
        due.is("way()", x.way(), -2);
        due.row(x, 2, 2, 1, 1);
        due.is("put(3, 3)", x.put(3, 3), 1);
        due.is("go(2, 1)", x.go(2, 1), true);
        steps(x, 1, 3);
        due.is("way() at HOME", x.way(), 0);
        due.row(x);
        due.is("go(1, 1)", x.go(1, 1), true);
        steps(x, 2, 5);
        due.is("way() of the SUNK", x.way(), -2);
        x = due.on("H.H/...", 1, 2);
        due.is("way(), two of 1", x.way(), 1);
        due.row(x, 0);
        due.is("put(2, 0)", x.put(2, 0), 3);
        due.is("way()", x.way(), 1);
        due.row(x, 2);
        x = due.on("....../#####./....../.#####/....../#####H", 0, 1);
        due.is("way() of 20", x.way(), 20);
        due.row(x, 1, 1, 1, 1, 1, 2, 1, 2, 1, 1);
        due.moor(x, "#H", 2);
        due.is("way() from a stone", x.way(), 1);
        due.row(x, 2);
    }

    private static void promise18() {
        due.begin("promise 18");
        GuideWalksLast x = due.on(MEADOW, 0, 0);
        due.is("reach()", x.reach(), 8);
        due.row(x, 255, 0);
        x = due.on(".o./.#H", 0, 0);
        due.is("reach()", x.reach(), 3);
        due.row(x, 1 + 2 + 8, 0);
        due.is("go(2, 0)", x.go(2, 0), true);
        due.is("reach()", x.reach(), 3);
        due.row(x, 2 + 4 + 32, 0);
        steps(x, 2, 2, 2, 5);
        due.is("reach() at HOME", x.reach(), 1);
        due.row(x, 32, 0);
        x = due.on("....../....../....../#####./....../......", 0, 0);
        due.is("reach()", x.reach(), 31);
        due.row(x, (1 << 18) - 1, (1 << 18) - 1 - 31);
        due.is("put(23, 1)", x.put(23, 1), 0);
        due.is("reach()", x.reach(), 19);
        due.row(x, (1 << 18) - 1, 32);
        due.moor(x, "#o", 2);
        due.is("reach() from a stone", x.reach(), 2);
        due.row(x, 3, 0);
    }

    private static GuideWalksLast wanderers() {
        GuideWalksLast x = due.on(MEADOW, 0, 1);
        due.is("weights(2, 6)", x.weights(2, 6), true);
        return x;
    }

    private static void promise19() {
        due.begin("promise 19");
        GuideWalksLast x = wanderers();
        due.is("never(-1)", x.never(-1), NONE);
        due.is("never(9)", x.never(9), NONE);
        due.row(x);
        due.is("never(3)", x.never(3), 0);
        due.row(x, 27, 125, 24, 125);
        due.is("never(2)", x.never(2), 0);
        due.row(x, 0, 1, 4, 25);
        due.is("never(8)", x.never(8), 0);
        due.is("never(9)", x.never(9), NONE);
        due.is("count(10)", x.count(10), 4);
        due.moor(x, "o", 1);
        due.is("never(8)", x.never(8), 0);
        due.row(x, 0, 1, 1, 1);
        due.moor(x, "H", 1);
        due.is("never(0)", x.never(0), 0);
        due.row(x, 1, 1, 0, 1);
    }

    /** HOME lies to the right, where the party never turns by itself. */
    private static GuideWalksLast leftish(int voice, int heard) {
        GuideWalksLast x = due.on(".H", 0, 0);
        due.is("weights(5, 5)", x.weights(5, 5), true);
        due.is("set(0, " + voice + ")", x.set(0, voice), 9);
        due.is("set(1, " + heard + ")", x.set(1, heard), 10);
        return x;
    }

    private static void promise20() {
        due.begin("promise 20");
        GuideWalksLast x = leftish(2, 3);
        due.is("best(-1)", x.best(-1), NONE);
        due.is("best(9)", x.best(9), NONE);
        due.row(x);
        due.is("best(0)", x.best(0), 0);
        due.row(x, 0, 1);
        due.is("best(1)", x.best(1), 0);
        due.row(x, 3, 10);
        due.is("best(2)", x.best(2), 0);
        due.row(x, 81, 200);
        due.is("set(0, 1)", x.set(0, 1), 2);
        due.is("best(2)", x.best(2), 0);
        due.row(x, 3, 10);
        due.is("set(0, 0)", x.set(0, 0), 1);
        due.is("best(2)", x.best(2), 0);
        due.row(x, 0, 1);
        due.is("best(8), three times left", x.best(8), 0);
        due.row(x, 256 - 1 - 8 - 28, 256);
        counts(x, 2, 2, 0, 0, 0, 0, 0, 0, 0);
        due.moor(x, "H", 1);
        due.is("best(8)", x.best(8), 0);
        due.row(x, 1, 1);
        due.moor(x, "o", 1);
        due.is("best(8)", x.best(8), 0);
        due.row(x, 0, 1);
    }

    private static void promise21() {
        due.begin("promise 21");
        GuideWalksLast x = leftish(0, 3);
        due.is("fewest(2, 0)", x.fewest(2, 0), 0);
        due.is("fewest(2, 1)", x.fewest(2, 1), 1);
        due.is("fewest(2, 30)", x.fewest(2, 30), 1);
        due.is("fewest(2, 31)", x.fewest(2, 31), 2);
        due.is("fewest(2, 40)", x.fewest(2, 40), 2);
        due.is("fewest(2, 41)", x.fewest(2, 41), -2);
        due.is("fewest(0, 1)", x.fewest(0, 1), -2);
        due.is("fewest(-1, 0)", x.fewest(-1, 0), NONE);
        due.is("fewest(9, 0)", x.fewest(9, 0), NONE);
        due.is("fewest(2, -1)", x.fewest(2, -1), NONE);
        due.is("fewest(2, 101)", x.fewest(2, 101), NONE);
        due.is("count(5)", x.count(5), 0);
        due.row(x);
        due.moor(x, "H", 1);
        due.is("fewest(0, 100)", x.fewest(0, 100), 0);
        due.moor(x, "o", 1);
        due.is("fewest(8, 1)", x.fewest(8, 1), -2);
        // all its way it turns wrong by itself: each TURN must be called
        x = due.on("....../......", 0, 1);
        due.is("put(5, 3)", x.put(5, 3), 0);
        due.is("weights(0, 0)", x.weights(0, 0), true);
        due.is("fewest(5, 100)", x.fewest(5, 100), 5);
        due.is("fewest(4, 100)", x.fewest(4, 100), -2);
    }

    private static void promise22() {
        due.begin("promise 22");
        GuideWalksLast x = leftish(2, 3);
        due.is("should(0)", x.should(0), NONE);
        due.is("should(9)", x.should(9), NONE);
        due.is("should(1)", x.should(1), 2);
        due.is("should(8)", x.should(8), 2);
        due.is("set(1, 0)", x.set(1, 0), 3);
        due.is("should(1), unheard", x.should(1), 3);
        due.is("set(1, 10)", x.set(1, 10), 0);
        due.is("set(0, 0)", x.set(0, 0), 2);
        due.is("should(1), no VOICE", x.should(1), 3);
        due.row(x);
        x = due.on("H.H/...", 1, 0);
        due.is("should(1), two as good", x.should(1), 0);
        due.is("weights(10, 0)", x.weights(10, 0), true);
        due.is("should(1), none as good", x.should(1), 3);
        due.is("go(4, 0)", x.go(4, 0), true);
        due.is("weights(0, 0)", x.weights(0, 0), true);
        due.is("should(2), called at the second STEP", x.should(2), 3);
        x = due.on("..H", 0, 1);
        due.is("weights(5, 0)", x.weights(5, 0), true);
        due.is("should(2), on", x.should(2), 1);
        due.is("should(1), nothing helps", x.should(1), 3);
        due.moor(x, "H", 1);
        due.is("should(1)", x.should(1), -2);
        due.is("should(9)", x.should(9), NONE);
        due.moor(x, "o", 1);
        due.is("should(8)", x.should(8), -2);
        due.is("should(0)", x.should(0), NONE);
    }

    private static void promise23() {
        due.begin("promise 23");
        GuideWalksLast x = due.on(".o", 0, 0);
        due.is("weights(0, 0)", x.weights(0, 0), true);
        due.is("set(1, 5)", x.set(1, 5), 10);
        due.is("safest(-1)", x.safest(-1), NONE);
        due.is("safest(9)", x.safest(9), NONE);
        due.is("safest(0)", x.safest(0), 0);
        due.row(x, 1, 1);
        due.is("safest(1)", x.safest(1), 0);
        due.row(x, 1, 2);
        due.is("safest(2)", x.safest(2), 0);
        due.row(x, 1, 2);
        due.is("safest(3), asks thrice", x.safest(3), 0);
        due.row(x, 3, 8);
        due.is("set(0, 1)", x.set(0, 1), 9);
        due.is("safest(2)", x.safest(2), 0);
        due.row(x, 1, 2);
        due.is("safest(3)", x.safest(3), 0);
        due.row(x, 0, 1);
        due.is("set(0, 0)", x.set(0, 0), 1);
        due.is("safest(1)", x.safest(1), 0);
        due.row(x, 0, 1);
        due.moor(x, "H", 1);
        due.is("safest(8)", x.safest(8), 0);
        due.row(x, 1, 1);
        due.moor(x, "o", 1);
        due.is("safest(0)", x.safest(0), 0);
        due.row(x, 0, 1);
    }

    private static void promise24() {
        due.begin("promise 24");
        GuideWalksLast x = due.on("o.o", 1, 0);
        due.is("perils(-1)", x.perils(-1), NONE);
        due.is("perils(9)", x.perils(9), NONE);
        due.row(x);
        due.is("perils(8), on alone", x.perils(8), 0);
        due.row(x, 0, 0);
        due.is("weights(5, 5)", x.weights(5, 5), true);
        due.is("perils(0)", x.perils(0), 0);
        due.is("perils(1)", x.perils(1), 1);
        due.row(x, 1, 0);
        due.is("weights(5, 0)", x.weights(5, 0), true);
        due.is("perils(1)", x.perils(1), 2);
        due.row(x, 5, 0);
        due.is("weights(0, 9)", x.weights(0, 9), true);
        due.is("perils(8)", x.perils(8), 1);
        due.row(x, 4, 0);
        x = due.on("....../....../....../o.....", 6, 2);
        due.is("perils(1)", x.perils(1), 0);
        due.is("perils(2)", x.perils(2), 1);
        due.row(x, 0, 1);
        due.moor(x, "o", 1);
        due.is("perils(8)", x.perils(8), 0);
        due.row(x, 0, 0);
        due.moor(x, "Ho", 2);
        due.is("perils(8)", x.perils(8), 0);
        due.is("perils(9)", x.perils(9), NONE);
    }

    private static void promise25() {
        due.begin("promise 25");
        GuideWalksLast x = wanderers();
        due.is("behind(3, -1)", x.behind(3, -1), NONE);
        due.is("behind(3, 9)", x.behind(3, 9), NONE);
        due.is("behind(8, 1)", x.behind(8, 1), NONE);
        due.is("behind(-1, 1)", x.behind(-1, 1), NONE);
        due.row(x);
        due.is("behind(0, 0)", x.behind(0, 0), 0);
        due.row(x, 1, 1, 0, 1);
        due.is("behind(3, 3)", x.behind(3, 3), 0);
        due.row(x, 27, 125, 71, 25);
        due.is("behind(5, 3)", x.behind(5, 3), 0);
        due.row(x, 24, 125, 71, 25);
        due.is("behind(4, 1)", x.behind(4, 1), 0);
        due.row(x, 1, 5, 1, 1);
        due.is("behind(0, 2)", x.behind(0, 2), 0);
        due.row(x, 4, 25, 2, 1);
        due.moor(x, "o.", 2);
        due.is("behind(0, 8)", x.behind(0, 8), 0);
        due.row(x, 1, 1, 0, 1);
        due.is("behind(1, 8)", x.behind(1, 8), 0);
        due.row(x, 0, 1, 0, 1);
    }

    private static void promise26() {
        due.begin("promise 26");
        GuideWalksLast x = leftish(2, 7);
        due.is("loud(2, 0)", x.loud(2, 0), 0);
        due.is("loud(2, 40)", x.loud(2, 40), 3);
        due.is("loud(2, 41)", x.loud(2, 41), 4);
        due.is("loud(2, 52)", x.loud(2, 52), 4);
        due.is("loud(2, 53)", x.loud(2, 53), 5);
        due.is("loud(2, 100)", x.loud(2, 100), 10);
        due.is("loud(0, 1)", x.loud(0, 1), -2);
        due.is("loud(-1, 0)", x.loud(-1, 0), NONE);
        due.is("loud(9, 0)", x.loud(9, 0), NONE);
        due.is("loud(2, -1)", x.loud(2, -1), NONE);
        due.is("loud(2, 101)", x.loud(2, 101), NONE);
        due.is("set(1, 7)", x.set(1, 7), 7);
        due.is("set(0, 1)", x.set(0, 1), 2);
        due.is("loud(2, 41)", x.loud(2, 41), 5);
        due.is("set(0, 0)", x.set(0, 0), 1);
        due.is("loud(2, 1)", x.loud(2, 1), -2);
        due.row(x);
    }

    private static void promise27() {
        due.begin("promise 27");
        GuideWalksLast x = due.on(MEADOW, 0, 1);
        due.fee(x, "50*h-3*x+s-2*a", 0);
        due.is("owed()", x.owed(), 0);
        steps(x, 1, 1);
        due.is("owed()", x.owed(), 1);
        due.is("ask(1)", x.ask(1), 2);
        due.is("owed()", x.owed(), 0);
        steps(x, 1, 3);
        due.is("owed() at HOME", x.owed(), 51);
        due.is("undo()", x.undo(), 2);
        due.is("owed()", x.owed(), 0);
        due.is("go(1, 1)", x.go(1, 1), true);
        steps(x, 2, 5);
        due.is("owed() of the SUNK", x.owed(), -2);
        due.row(x, 1, 1);
    }

    private static void promise28() {
        due.begin("promise 28");
        GuideWalksLast x = leftish(2, 3);
        due.is("greed(-1)", x.greed(-1), NONE);
        due.is("greed(6)", x.greed(6), NONE);
        due.row(x);
        due.is("greed(2), no fee: the greatest chance", x.greed(2), 0);
        due.row(x, 0, 1, 81, 200);
        due.fee(x, "10*h-a", 0);
        due.is("greed(2)", x.greed(2), 0);
        // asks first: 3 - 1, and with 7/10 * 1/2 of it again
        due.row(x, 27, 10, 81, 200);
        due.fee(x, "3*h-a", 0);
        due.is("greed(2), asking costs too much", x.greed(2), 0);
        due.row(x, 0, 1, 0, 1);
        due.fee(x, "a", 0);
        due.is("greed(2)", x.greed(2), 0);
        // called on, then right: 3/10 of it is behind the second STEP where 3/10 + 7/20 were turned up
        due.row(x, 2, 1, 39, 200);
        due.fee(x, "3-5*h", 0);
        due.is("greed(2)", x.greed(2), 0);
        due.row(x, 3, 1, 0, 1);
        due.fee(x, "0-s", 0);
        due.is("greed(2)", x.greed(2), 0);
        due.row(x, -17, 10, 81, 200);
        due.fee(x, "0-7*s", 0);
        due.is("set(1, 10)", x.set(1, 10), 3);
        due.is("greed(5)", x.greed(5), 0);
        due.row(x, -7, 1, 1, 1);
        due.fee(x, "s", 0);
        due.is("set(0, 9)", x.set(0, 9), 2);
        due.is("greed(5), HOME at last", x.greed(5), 0);
        due.row(x, 5, 1, 1, 1);
        steps(x, 1, 0, 1, 0);
        due.is("greed(2) of these alone", x.greed(2), 0);
        due.row(x, 2, 1, 1, 1);
        x = due.on("o.", 1, 0);
        due.fee(x, "9*x+1", 0);
        due.is("greed(1)", x.greed(1), 0);
        due.row(x, 10, 1, 0, 1);
        due.is("greed(0)", x.greed(0), 0);
        due.row(x, 1, 1, 0, 1);
        due.moor(x, "H", 1);
        due.fee(x, "4*h+s+a+2", 0);
        due.is("greed(5)", x.greed(5), 0);
        due.row(x, 6, 1, 1, 1);
    }

    private static void promise29() {
        due.begin("promise 29");
        GuideWalksLast x = leftish(2, 3);
        due.is("honest(-1)", x.honest(-1), NONE);
        due.is("honest(6)", x.honest(6), NONE);
        due.row(x);
        due.is("honest(2), no fee", x.honest(2), 1);
        due.row(x, 0, 1);
        due.fee(x, "h", 0);
        due.is("honest(5)", x.honest(5), 1);
        due.row(x, 0, 1);
        due.fee(x, "0-h", 0);
        due.is("honest(2)", x.honest(2), 0);
        due.row(x, 81, 200);
        due.fee(x, "a", 0);
        due.is("honest(2)", x.honest(2), 0);
        due.row(x, 21, 100);
        due.is("honest(0)", x.honest(0), 1);
    }

    private static void promise30() {
        due.begin("promise 30");
        GuideWalksLast x = leftish(2, 3);
        due.is("shelf(-1)", x.shelf(-1), false);
        due.is("shelf(3)", x.shelf(3), false);
        due.is("fairest(2)", x.fairest(2), -2);
        due.fee(x, "0-h", 0);
        due.is("shelf(2)", x.shelf(2), true);
        due.fee(x, "h", 0);
        due.is("fairest(2), as it was laid", x.fairest(2), 2);
        due.row(x, 0, 1);
        due.is("shelf(2)", x.shelf(2), true);
        due.is("fairest(2), laid anew", x.fairest(2), 2);
        due.row(x, 81, 200);
        due.is("the fee stays", x.greed(2), 0);
        due.row(x, 81, 200, 81, 200);
    }

    private static void promise31() {
        due.begin("promise 31");
        GuideWalksLast x = leftish(2, 3);
        due.is("fairest(0)", x.fairest(0), -2);
        due.is("fairest(6)", x.fairest(6), NONE);
        due.is("fairest(-1)", x.fairest(-1), NONE);
        due.fee(x, "a", 0);
        due.is("shelf(0)", x.shelf(0), true);
        due.is("fairest(2), one alone", x.fairest(2), 0);
        due.row(x, 39, 200);
        due.fee(x, "h", 0);
        due.is("shelf(2)", x.shelf(2), true);
        due.is("fairest(2)", x.fairest(2), 2);
        due.row(x, 39, 200, 81, 200);
        due.fee(x, "", 0);
        due.is("shelf(1)", x.shelf(1), true);
        due.is("fairest(2), the first of equal ones", x.fairest(2), 1);
        due.row(x, 39, 200, 81, 200, 81, 200);
        due.is("fairest(0)", x.fairest(0), 0);
        due.row(x, 0, 1, 0, 1, 0, 1);
        due.moor(x, "H", 1);
        due.is("fairest(5)", x.fairest(5), 0);
        due.row(x, 1, 1, 1, 1, 1, 1);
        due.is("fairest(6)", x.fairest(6), NONE);
        due.is("count(10)", x.count(10), 6);
    }

    private static void promise32() {
        due.begin("promise 32");
        GuideWalksLast x = due.on(MEADOW, 0, 0);
        due.is("track(-1)", x.track(-1), NONE);
        due.is("track(8)", x.track(8), NONE);
        due.is("track(0)", x.track(0), NONE);
        steps(x, 1, 0);
        due.is("track(0), it stayed", x.track(0), NONE);
        due.is("ask(2)", x.ask(2), 1);
        due.is("track(0)", x.track(0), 1);
        due.is("alone()", x.alone(), 2);
        due.is("track(1)", x.track(1), 2);
        steps(x, 2, 6, 2, 5);
        due.is("track(2)", x.track(2), 6);
        due.is("track(6)", x.track(6), 5);
        due.is("track(5)", x.track(5), NONE);
        due.is("go(0, 1)", x.go(0, 1), true);
        steps(x, 2, 4);
        due.is("track(0), the latest", x.track(0), 4);
        due.is("track(1)", x.track(1), 2);
        due.look(x, "ro", 4);
        due.is("track(4)", x.track(4), NONE);
    }

    private static void promise33() {
        due.begin("promise 33");
        GuideWalksLast x = due.on(MEADOW, 0, 1);
        due.is("rain()", x.rain(), 0);
        steps(x, 1, 1, 1, 2, 1, 3);
        due.is("rain()", x.rain(), 3);
        due.is("rain()", x.rain(), 0);
        for (int c = 0; c < 8; c++) {
            due.is("track(" + c + ")", x.track(c), NONE);
        }
        due.is("count(8)", x.count(8), 3);
        due.is("count(6)", x.count(6), 3);
    }

    private static void promise34() {
        due.begin("promise 34");
        GuideWalksLast x = due.on(MEADOW, 0, 1);
        due.is("follow(-1)", x.follow(-1), NONE);
        due.is("follow(8)", x.follow(8), NONE);
        due.row(x);
        due.is("follow(0)", x.follow(0), 0);
        due.row(x, 0, 0);
        due.is("follow(5), a bog", x.follow(5), 5);
        due.row(x, 0, 1);
        due.is("follow(3), HOME", x.follow(3), 3);
        due.row(x, 0, 2);
        steps(x, 1, 1, 1, 2);
        due.is("follow(0)", x.follow(0), 2);
        due.row(x, 2, 0);
        steps(x, 1, 3);
        due.is("follow(1)", x.follow(1), 3);
        due.row(x, 2, 2);
        due.is("go(1, 1)", x.go(1, 1), true);
        steps(x, 2, 5);
        due.is("follow(0)", x.follow(0), 5);
        due.row(x, 2, 1);
        due.is("go(2, 2)", x.go(2, 2), true);
        steps(x, 1, 6, 0, 7, 0, 3);
        due.is("go(7, 0)", x.go(7, 0), true);
        steps(x, 0, 6, 2, 2);
        // 2 to 6, 6 to 2, 7 to 6
        due.is("follow(7) comes round", x.follow(7), 6);
        due.row(x, 3, 3);
        due.is("follow(2) comes round", x.follow(2), 2);
        due.row(x, 2, 3);
    }

    private static void promise35() {
        due.begin("promise 35");
        GuideWalksLast x = due.on(MEADOW, 1, 1);
        due.is("warned()", x.warned(), -2);
        steps(x, 1, 2, 1, 3);
        due.is("warned(), they come HOME", x.warned(), -2);
        due.row(x);
        due.is("go(4, 0)", x.go(4, 0), true);
        steps(x, 2, 5);
        due.is("warned()", x.warned(), 4);
        due.row(x, 1);
        due.is("go(0, 1)", x.go(0, 1), true);
        steps(x, 1, 1, 2, 5);
        due.is("warned()", x.warned(), 0);
        due.row(x, 3);
        due.is("put(3, 0)", x.put(3, 0), 3);
        due.is("warned(), no way to HOME", x.warned(), -2);
        due.row(x, 3);
        x = due.on("...H/....", 6, 3);
        steps(x, 1, 5, 2, 1, 2, 2, 2, 6);
        due.is("warned(), they come round", x.warned(), 1);
        due.row(x, 4);
        due.is("put(3, 2)", x.put(3, 2), 3);
        due.is("warned()", x.warned(), -2);
        // HOME can be come to by some headings alone: way() looks at all
        x = due.on("oo./.oH", 3, 0);
        steps(x, 2, 4);
        due.is("warned(), cut off", x.warned(), -2);
        due.is("put(1, 0)", x.put(1, 0), 1);
        due.is("put(0, 0)", x.put(0, 0), 1);
        due.is("warned()", x.warned(), 3);
        due.row(x, 1);
    }

    private static void promise36() {
        due.begin("promise 36");
        GuideWalksLast x = new GuideWalksLast();
        due.is("codes(0, 1)", x.codes(0, 1), NONE);
        due.is("codes(6, 1)", x.codes(6, 1), NONE);
        due.is("codes(3, 0)", x.codes(3, 0), NONE);
        due.is("codes(3, 4)", x.codes(3, 4), NONE);
        due.is("codes(-1, -1)", x.codes(-1, -1), NONE);
        due.row(x);
        due.is("codes(1, 1)", x.codes(1, 1), 2);
        due.row(x, 0, 1);
        due.is("codes(2, 2)", x.codes(2, 2), 2);
        due.row(x, 0, 3);
        due.is("codes(3, 2)", x.codes(3, 2), 4);
        due.row(x, 0, 3, 5, 6);
        due.is("codes(4, 3)", x.codes(4, 3), 2);
        due.row(x, 0, 7);
        due.is("codes(4, 4)", x.codes(4, 4), 2);
        due.row(x, 0, 15);
        due.is("codes(5, 3)", x.codes(5, 3), 4);
        due.row(x, 0, 7, 25, 30);
        due.is("codes(5, 5)", x.codes(5, 5), 2);
        due.row(x, 0, 31);
        due.is("codes(5, 1)", x.codes(5, 1), 32);
        due.row(x, 0, 1, 2, 3, 4, 5, 6, 7, 8, 9, 10, 11, 12, 13, 14, 15);
    }

    private static void promise37() {
        due.begin("promise 37");
        GuideWalksLast x = new GuideWalksLast();
        due.is("meant(3, 5, 2, 255)", x.meant(3, 5, 2, 255), 1 << 5 | 1 << 7);
        due.is("meant(3, 5, 0, 255)", x.meant(3, 5, 0, 255), 1 << 5);
        due.is("meant(3, 5, 0, 223)", x.meant(3, 5, 0, 223), 0);
        due.is("meant(3, 5, 7, 201)", x.meant(3, 5, 7, 201), 201);
        due.is("meant(1, 1, 0, 3)", x.meant(1, 1, 0, 3), 2);
        due.is("meant(1, 1, 0, 4)", x.meant(1, 1, 0, 4), NONE);
        due.is("meant(4, 0, 0, 1 << 16)", x.meant(4, 0, 0, 1 << 16), NONE);
        due.is("meant(4, 0, 15, -1)", x.meant(4, 0, 15, -1), NONE);
        due.is("meant(4, 0, 15, 65535)", x.meant(4, 0, 15, 65535), 65535);
        due.is("meant(5, 31, 0, -1)", x.meant(5, 31, 0, -1), Integer.MIN_VALUE);
        due.is("meant(5, 16, 15, -1)", x.meant(5, 16, 15, -1), 0xffff0000);
        due.is("meant(0, 0, 0, 0)", x.meant(0, 0, 0, 0), NONE);
        due.is("meant(6, 0, 0, 0)", x.meant(6, 0, 0, 0), NONE);
        due.is("meant(3, 8, 0, 0)", x.meant(3, 8, 0, 0), NONE);
        due.is("meant(3, -1, 0, 0)", x.meant(3, -1, 0, 0), NONE);
        due.is("meant(3, 0, 8, 0)", x.meant(3, 0, 8, 0), NONE);
        due.is("meant(3, 0, -1, 0)", x.meant(3, 0, -1, 0), NONE);
        due.is("meant(3, 0, 7, 0)", x.meant(3, 0, 7, 0), 0);
        due.row(x);
    }

    private static int prints(GuideWalksLast x, int heading, int... cells) {
        int many = x.wipe();
        for (int c : cells) {
            many = x.print(c, heading);
        }
        return many;
    }

    private static void promise38() {
        due.begin("promise 38");
        GuideWalksLast x = due.on(MEADOW, 0, 0);
        due.is("print(0, 4)", x.print(0, 4), NONE);
        due.is("print(0, -1)", x.print(0, -1), NONE);
        due.is("print(8, 0)", x.print(8, 0), NONE);
        due.is("print(-1, 0)", x.print(-1, 0), NONE);
        due.is("print(3, 3)", x.print(3, 3), 1);
        due.is("print(4, 0), a row on", x.print(4, 0), NONE);
        due.is("print(1, 0), two on", x.print(1, 0), NONE);
        due.is("print(6, 0), athwart", x.print(6, 0), NONE);
        due.is("print(8, 0)", x.print(8, 0), NONE);
        due.is("print(-1, 0)", x.print(-1, 0), NONE);
        due.is("print(3, 99)", x.print(3, 99), 2);
        due.is("print(7, -9)", x.print(7, -9), 3);
        due.is("print(6, 0)", x.print(6, 0), 4);
        due.is("print(5, 0)", x.print(5, 0), 5);
        due.is("print(1, 0)", x.print(1, 0), 6);
        for (int many = 7; many <= 12; many++) {
            due.is("print(1, 0)", x.print(1, 0), many);
        }
        due.is("print(1, 0)", x.print(1, 0), NONE);
        due.is("count(9)", x.count(9), 12);
        due.moor(x, "#", 1);
        due.is("count(9)", x.count(9), 0);
        due.is("print(0, 0) on a stone", x.print(0, 0), 1);
    }

    private static void promise39() {
        due.begin("promise 39");
        GuideWalksLast x = due.on(MEADOW, 0, 0);
        due.is("wipe()", x.wipe(), 0);
        due.is("prints", prints(x, 1, 0, 1, 2), 3);
        due.is("wipe()", x.wipe(), 3);
        due.is("wipe()", x.wipe(), 0);
        due.is("count(9)", x.count(9), 0);
        due.is("rows()", x.rows(), -2);
        due.is("print(7, 2)", x.print(7, 2), 1);
    }

    private static void promise40() {
        due.begin("promise 40");
        GuideWalksLast x = due.on(MEADOW, 0, 0);
        due.is("rows()", x.rows(), -2);
        due.is("prints", prints(x, 1, 0, 1, 2, 3), 4);
        due.is("rows()", x.rows(), 1);
        due.row(x, 1, 1, 1);
        due.is("wipe()", x.wipe(), 4);
        due.is("print(0, 1)", x.print(0, 1), 1);
        due.is("print(1, 3), HEADING does not matter", x.print(1, 3), 2);
        due.is("rows()", x.rows(), 1);
        due.row(x, 1);
        due.is("prints", prints(x, 3, 0, 1), 2);
        due.is("rows()", x.rows(), 0);
        due.row(x);
        due.is("rows()", x.rows(), 0);
        // up or left it stays on CELL 0; then to 1 it must have been turned up
        due.is("prints", prints(x, 0, 0, 0, 1), 3);
        due.is("rows()", x.rows(), 1);
        due.row(x, 1, 2);
        due.is("prints", prints(x, 0, 0, 0, 0), 3);
        due.is("rows()", x.rows(), 4);
        due.row(x, 0, 1);
        due.is("prints", prints(x, 2, 1, 5, 5), 3);
        due.is("rows(), none goes on from a BOG", x.rows(), 0);
        due.row(x);
        due.is("prints", prints(x, 2, 1, 5), 2);
        due.is("rows()", x.rows(), 1);
        due.is("put(5, 2)", x.put(5, 2), 1);
        due.is("rows(), none goes on a stone", x.rows(), 0);
        due.is("prints", prints(x, 1, 1, 1), 2);
        due.is("rows(), against it and up", x.rows(), 2);
        due.row(x, 0);
        due.is("prints", prints(x, 1, 2, 3, 3), 3);
        due.is("rows(), none goes on from HOME", x.rows(), 0);
        due.is("prints", prints(x, 0, 3), 1);
        due.is("rows(), no STEP", x.rows(), 1);
        due.row(x);
        due.moor(x, ".", 1);
        due.is("prints", prints(x, 0, 0, 0, 0, 0, 0, 0, 0, 0, 0, 0, 0, 0), 12);
        due.is("rows()", x.rows(), 177147);
        due.row(x, 0, 0, 0, 0, 0, 0, 0, 0, 0, 0, 0);
    }

    private static void promise41() {
        due.begin("promise 41");
        GuideWalksLast x = due.on(MEADOW, 0, 0);
        due.is("lies()", x.lies(), NONE);
        due.is("prints", prints(x, 0, 0, 1, 5), 3);
        due.is("lies()", x.lies(), 1);
        due.row(x, 2, 2);
        due.is("weights(0, 5)", x.weights(0, 5), true);
        due.is("lies(), by its weights", x.lies(), 0);
        due.row(x, 2, 2);
        due.is("weights(0, 10)", x.weights(0, 10), true);
        due.is("prints", prints(x, 1, 0, 4, 4), 3);
        // right to 4, away from HOME; there on is by itself, right would be called falsely
        due.is("lies()", x.lies(), 1);
        due.row(x, 2, 1);
        due.is("weights(0, 0)", x.weights(0, 0), true);
        due.is("lies()", x.lies(), 0);
        due.row(x, 2, 2);
        due.is("prints", prints(x, 3, 0, 1), 2);
        due.is("lies(), no such row", x.lies(), -2);
        due.row(x, 2, 2);
        due.is("prints", prints(x, 2, 0), 1);
        due.is("lies()", x.lies(), 0);
        due.row(x);
        due.is("put(3, 0)", x.put(3, 0), 3);
        due.is("prints", prints(x, 1, 0, 1, 2), 3);
        due.is("lies(), no way ahead nor behind", x.lies(), 2);
        due.row(x, 1, 1);
        x = due.on("...H", 0, 0);
        due.is("prints", prints(x, 0, 0, 1, 2, 3), 4);
        due.is("lies(), all true", x.lies(), 0);
        due.row(x, 2, 1, 1);
        due.is("weights(10, 0)", x.weights(10, 0), true);
        due.is("lies(), all called, all true", x.lies(), 0);
        due.is("prints", prints(x, 0, 0, 0, 1), 3);
        due.is("lies(), one of them did not help", x.lies(), 1);
        due.row(x, 1, 2);
    }

    private static void promise42() {
        due.begin("promise 42");
        GuideWalksLast x = new GuideWalksLast();
        due.is("worth(0, 0, 99)", x.worth(0, 0, 99), 0);
        due.is("worth(0, 0, 1)", x.worth(0, 0, 1), 99);
        due.is("worth(4, 0, 7)", x.worth(4, 0, 7), 0);
        due.is("worth(0, 4, 8)", x.worth(0, 4, 8), 0);
        due.is("worth(4, 0, 0)", x.worth(4, 0, 0), 7);
        due.is("worth(0, 4, 0)", x.worth(0, 4, 0), 8);
        due.is("worth(5, 0, 1)", x.worth(5, 0, 1), NONE);
        due.is("worth(-1, 0, 1)", x.worth(-1, 0, 1), NONE);
        due.is("worth(0, 5, 1)", x.worth(0, 5, 1), NONE);
        due.is("worth(0, -1, 1)", x.worth(0, -1, 1), NONE);
        due.is("worth(0, 0, 100)", x.worth(0, 0, 100), NONE);
        due.is("worth(0, 0, -1)", x.worth(0, 0, -1), NONE);
        due.is("worth(0, 0, 0)", x.worth(0, 0, 0), 1);
    }

    private static void promise43() {
        due.begin("promise 43");
        GuideWalksLast x = new GuideWalksLast();
        due.is("hire(0)", x.hire(0), NONE);
        due.is("hire(6)", x.hire(6), NONE);
        due.row(x);
        due.is("hire(5)", x.hire(5), 0);
        due.row(x, 0, 1, 2, 3, 4);
        x.worth(0, 0, 5);
        x.worth(1, 0, 9);
        x.worth(0, 1, 4);
        due.is("hire(1)", x.hire(1), 5);
        due.row(x, 0);
        due.is("hire(2)", x.hire(2), 13);
        due.row(x, 1, 0);
        x.worth(1, 1, 8);
        due.is("hire(2), two of 13", x.hire(2), 13);
        due.row(x, 0, 1);
        x.worth(4, 2, 99);
        due.is("hire(4)", x.hire(4), 13);
        due.row(x, 0, 1, 2, 3);
        due.is("hire(5)", x.hire(5), 112);
        due.row(x, 0, 1, 4, 2, 3);
    }

    private static void promise44() {
        due.begin("promise 44");
        GuideWalksLast x = new GuideWalksLast();
        x.worth(0, 0, 5);
        x.worth(1, 0, 9);
        x.worth(0, 1, 4);
        x.worth(2, 1, 3);
        due.is("hoarse(0, 1)", x.hoarse(0, 1), 5);
        due.is("hoarse(1, 1)", x.hoarse(1, 1), NONE);
        due.is("hoarse(0, 0)", x.hoarse(0, 0), NONE);
        due.is("hoarse(-1, 2)", x.hoarse(-1, 2), NONE);
        due.is("hoarse(0, 6)", x.hoarse(0, 6), NONE);
        due.is("hoarse(5, 5)", x.hoarse(5, 5), NONE);
        due.is("hoarse(0, 2)", x.hoarse(0, 2), 4);
        due.is("hoarse(1, 2)", x.hoarse(1, 2), 13 - 5);
        due.is("hoarse(0, 3)", x.hoarse(0, 3), 1);
        due.is("hoarse(1, 3)", x.hoarse(1, 3), 13 - 8);
        due.is("hoarse(2, 3)", x.hoarse(2, 3), 0);
        due.is("hoarse(1, 5)", x.hoarse(1, 5), 13 - 8);
        due.is("hoarse(4, 5)", x.hoarse(4, 5), 0);
        due.row(x);
        due.is("hire(2) after", x.hire(2), 13);
    }

    private static void promise45() {
        due.begin("promise 45");
        GuideWalksLast x = due.on(".", 0, 0);
        due.is("seed(-5)", x.seed(-5), 1);
        due.is("seed(min)", x.seed(Integer.MIN_VALUE), -5);
        due.is("seed(0)", x.seed(0), Integer.MIN_VALUE);
        due.is("alone()", x.alone(), 0);
        due.is("seed(1)", x.seed(1), 12345);
        due.is("alone()", x.alone(), 0);
        due.is("seed(1)", x.seed(1), 1103527590);
    }

    private static void promise46() {
        due.begin("promise 46");
        GuideWalksLast x = due.on(MEADOW, 0, 0);
        due.is("keep(-1)", x.keep(-1), false);
        due.is("keep(3)", x.keep(3), false);
        steps(x, 2, 1);
        due.is("keep(2)", x.keep(2), true);
        due.is("count(8)", x.count(8), 1);
        steps(x, 1, 2);
        due.is("keep(0)", x.keep(0), true);
        due.is("again(2)", x.again(2), true);
        due.is("count(2)", x.count(2), 1);
        due.is("again(0)", x.again(0), true);
        due.is("count(2)", x.count(2), 2);
        due.is("keep(2) anew", x.keep(2), true);
        due.is("go(0, 0)", x.go(0, 0), true);
        due.is("again(2)", x.again(2), true);
        due.is("count(2)", x.count(2), 2);
        due.is("again(1)", x.again(1), false);
    }

    private static void promise47() {
        due.begin("promise 47");
        GuideWalksLast x = due.on(MEADOW, 0, 0);
        due.is("ask(2)", x.ask(2), 1);
        due.is("alone()", x.alone(), 2);
        due.is("keep(1)", x.keep(1), true);
        int random = x.seed(9);
        due.is("set(0, 3)", x.set(0, 3), 8);
        due.is("set(1, 6)", x.set(1, 6), 10);
        due.is("weights(1, 1)", x.weights(1, 1), true);
        due.is("rain()", x.rain(), 2);
        due.is("go(6, 3)", x.go(6, 3), true);
        steps(x, 1, 5);
        counts(x, 8, 4, 5, 3, 1, 3, 1, 0, 1);
        due.is("again(1)", x.again(1), true);
        counts(x, 8, 4, 2, 1, 0, 8, 2, 1, 0);
        due.is("undo()", x.undo(), NONE);
        due.is("track(0)", x.track(0), 1);
        due.is("track(1)", x.track(1), 2);
        due.is("track(6)", x.track(6), NONE);
        due.is("seed", x.seed(1), random);
        due.is("HEARD stays", x.set(1, 6), 6);
        steps(x, 1, 3);
        due.is("again(1) from HOME", x.again(1), true);
        counts(x, 8, 4, 2, 1, 0, 8, 2, 1, 0);
    }

    private static void promise47Refused() {
        due.begin("promise 47, refused");
        GuideWalksLast x = due.on(MEADOW, 0, 1);
        due.is("keep(0)", x.keep(0), true);
        steps(x, 1, 1);
        due.is("again(-1)", x.again(-1), false);
        due.is("again(3)", x.again(3), false);
        due.is("again(1)", x.again(1), false);
        due.is("count(8)", x.count(8), 1);
        due.is("put(0, 2)", x.put(0, 2), 0);
        due.is("again(0), a stone now", x.again(0), false);
        due.is("count(2)", x.count(2), 1);
        due.is("put(0, 0)", x.put(0, 0), 2);
        due.is("again(0), as it was", x.again(0), true);
        due.is("count(2)", x.count(2), 0);
        due.is("go(1, 1)", x.go(1, 1), true);
        due.is("sheet(0, 1, 1, 0)", x.sheet(0, 1, 1, 0), 1);
        due.is("again(0), a bog now", x.again(0), false);
        due.is("sheet(0, 0, 0, 0)", x.sheet(0, 0, 0, 0), 0);
        due.is("again(0)", x.again(0), true);
        due.moor(x, "x", -1);
        due.is("again(0), moor() was refused", x.again(0), true);
        due.moor(x, MEADOW, 8);
        due.is("again(0), told anew", x.again(0), false);
        due.is("keep(0)", x.keep(0), true);
        due.is("again(0)", x.again(0), true);
        // SUNK, then firm: something else
        due.moor(x, "o..", 3);
        due.is("keep(2)", x.keep(2), true);
        due.is("go(1, 1)", x.go(1, 1), true);
        due.is("again(2)", x.again(2), true);
        due.is("SUNK", x.count(4), 1);
        due.is("go(1, 1)", x.go(1, 1), true);
        due.is("put(0, 0)", x.put(0, 0), 1);
        due.is("again(2)", x.again(2), false);
    }

    private static void promise48() {
        due.begin("promise 48");
        GuideWalksLast x = due.on("..../.H../..o.", 1, 2);
        due.is("ask(0)", x.ask(0), 2);
        steps(x, 2, 6);
        due.is("print(0, 0)", x.print(0, 0), 1);
        due.is("sign(0)", x.sign(0), 4);
        due.is("end(3)", x.end(3), true);
        counts(x, 12, 4, 6, 2, 0, 8, 2, 1, 2, 1, 2, 3);
        steps(x, 1, 10);
        counts(x, 12, 4, 10, 2, 1, 8, 3, 1, 3, 1, 2, 3);
        due.is("undo()", x.undo(), 2);
        steps(x, 2, 5);
        counts(x, 12, 4, 5, 3, 2, 8, 3, 1, 3, 1, 2, 3);
        due.is("count(12)", x.count(12), NONE);
        due.is("count(-1)", x.count(-1), NONE);
        due.is("count(max)", x.count(Integer.MAX_VALUE), NONE);
    }

    private static void promise49() {
        due.begin("promise 49");
        GuideWalksLast x = new GuideWalksLast();
        due.row(x);
        due.is("hire(3)", x.hire(3), 0);
        due.row(x, 0, 1, 2);
        due.is("row(min) throws", Due.throwsAt(x, Integer.MIN_VALUE), true);
        due.is("row(max) throws", Due.throwsAt(x, Integer.MAX_VALUE), true);
        due.is("hire(9)", x.hire(9), NONE);
        due.row(x, 0, 1, 2);
        due.is("hire(1)", x.hire(1), 0);
        due.row(x, 0);
    }
}
