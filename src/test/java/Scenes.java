/** Objects in the midst of a game: nothing in them is as it was at first. */
final class Scenes {
    /** 12 CELLS: 2 is a BOG, 5 a STONE, 3 HOME. */
    static final String MOOR = "..oH/.#../....";
    /** The least R whose next DRAW of 10 is 0, 1, .. 9. */
    private static final int[] SEEDS = seeds();

    private Scenes() {
    }

    private static int[] seeds() {
        int[] seeds = new int[10];
        for (int drawn = 0; drawn < 10; drawn++) {
            int seed = 0;
            while ((seed * 1103515245 + 12345 >>> 16) % 10 != drawn) {
                seed++;
            }
            seeds[drawn] = seed;
        }
        return seeds;
    }

    /** An R whose next DRAW of 10 is as told. */
    static int seedFor(int drawn) {
        return SEEDS[drawn];
    }

    static void text(GuideWalksLast x, String text) {
        x.end(0);
        for (int i = 0; i < text.length(); i += 4) {
            x.sign(four(text, i));
        }
        x.end(text.length());
    }

    /** Four signs of a text from a place on, 0 for those behind its end. */
    static int four(String text, int from) {
        int v = 0;
        for (int i = from; i < from + 4; i++) {
            v = v << 8 | (i < text.length() ? text.charAt(i) & 255 : 0);
        }
        return v;
    }

    private static void fee(GuideWalksLast x, String text) {
        text(x, text);
        x.fee();
    }

    /** THE PARTY is on a firm CELL behind 4 STEPS, one of them asked; 4 prints, 2 FEES on the shelf, one place kept. */
    static GuideWalksLast busy() {
        return busy(true);
    }

    /** As busy(), but no FEE is on the shelf. */
    static GuideWalksLast unladen() {
        return busy(false);
    }

    private static GuideWalksLast busy(boolean isLaden) {
        GuideWalksLast x = new GuideWalksLast();
        text(x, MOOR);
        x.moor();
        if (isLaden) {
            fee(x, "5*h-x");
            x.shelf(0);
            fee(x, "3*x-s");
            x.shelf(2);
        }
        fee(x, "9*h-2*x-a+s");
        x.weights(3, 5);
        x.set(0, 6);
        x.set(1, 7);
        x.worth(0, 0, 5);
        x.worth(1, 0, 9);
        x.worth(0, 1, 4);
        x.worth(4, 3, 8);
        x.go(8, 1);
        x.step(1);
        x.keep(1);
        x.seed(seedFor(2));
        x.ask(0);
        x.step(2);
        x.alone();
        tell(x);
        return x;
    }

    /** Prints, THE TEXT and ROW. */
    private static void tell(GuideWalksLast x) {
        x.wipe();
        x.print(8, 1);
        x.print(9, 0);
        x.print(9, 0);
        x.print(10, 0);
        x.hire(3);
        text(x, "ro");
    }

    static GuideWalksLast sunk() {
        GuideWalksLast x = busy();
        x.go(0, 1);
        x.step(1);
        x.step(1);
        tell(x);
        return x;
    }

    static GuideWalksLast home() {
        GuideWalksLast x = busy();
        x.go(11, 1);
        x.step(0);
        x.seed(seedFor(0));
        x.ask(1);
        tell(x);
        return x;
    }

    /** No VOICE is left. */
    static GuideWalksLast mute() {
        GuideWalksLast x = busy();
        x.set(0, 0);
        return x;
    }

    static GuideWalksLast muteAndSunk() {
        GuideWalksLast x = sunk();
        x.set(0, 0);
        return x;
    }

    /** Nothing can be undone. */
    static GuideWalksLast rested() {
        GuideWalksLast x = busy();
        x.put(0, 0);
        return x;
    }

    /** No print is told. */
    static GuideWalksLast wiped() {
        GuideWalksLast x = busy();
        x.wipe();
        return x;
    }
}
