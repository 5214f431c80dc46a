/** What a test holds against what is due; it prints what is not so. */
final class Due {
    private final String name;
    private int asked;
    private int wrong;
    private String part = "";

    Due(String name) {
        this.name = name;
    }

    int asked() {
        return asked;
    }

    void begin(String part) {
        this.part = part;
    }

    void is(String call, long got, long want) {
        asked++;
        if (got != want) {
            wrong++;
            System.out.println(part + ": " + call + " answered " + got + ", due is " + want);
        }
    }

    void is(String call, boolean got, boolean want) {
        is(call, got ? 1 : 0, want ? 1 : 0);
    }

    /** The whole ROW, and that it throws at both of its ends. */
    void row(GuideWalksLast x, long... want) {
        is("count(10)", x.count(10), want.length);
        for (int i = 0; i < want.length; i++) {
            is("row(" + i + ")", throwsAt(x, i) ? Long.MIN_VALUE : x.row(i), want[i]);
        }
        is("row(-1) throws", throwsAt(x, -1), true);
        is("row(" + want.length + ") throws", throwsAt(x, want.length), true);
    }

    static boolean throwsAt(GuideWalksLast x, int i) {
        try {
            x.row(i);
            return false;
        } catch (java.util.NoSuchElementException e) {
            return true;
        }
    }

    /** Makes a text THE TEXT. */
    void text(GuideWalksLast x, String text) {
        is("end(0)", x.end(0), true);
        for (int i = 0; i < text.length(); i += 4) {
            int v = 0;
            for (int j = i; j < i + 4; j++) {
                v = v << 8 | (j < text.length() ? text.charAt(j) & 255 : 0);
            }
            is("sign(" + v + ")", x.sign(v), i + 4);
        }
        is("end(" + text.length() + ")", x.end(text.length()), true);
    }

    void moor(GuideWalksLast x, String text, int want) {
        text(x, text);
        is("moor() of " + text, x.moor(), want);
        is("count(11)", x.count(11), 0);
    }

    void fee(GuideWalksLast x, String text, int want) {
        text(x, text);
        is("fee() of " + text, x.fee(), want);
        is("count(11)", x.count(11), 0);
    }

    void look(GuideWalksLast x, String text, int want) {
        text(x, text);
        is("look() of " + text, x.look(), want);
        is("count(11)", x.count(11), 0);
    }

    /** A new object with a moor, THE PARTY on a CELL. */
    GuideWalksLast on(String moor, int c, int heading) {
        GuideWalksLast x = new GuideWalksLast();
        moor(x, moor, moor.replace("/", "").length());
        is("go(" + c + ", " + heading + ")", x.go(c, heading), true);
        return x;
    }

    void finish() {
        System.out.println(name + ": " + asked + " answers, " + wrong + " not as due");
        if (wrong != 0) {
            System.exit(1);
        }
    }
}
