import java.util.Random;

/** Runs of up to 512 calls, drawn with fixed seeds, on the class and on Plain: the answers must be the same. */
public final class PlainTest {
    private static final int RUNS = 2500;
    private static final int CALLS = 512;
    /** A walk of prints and all that is looked at behind it take fewer. */
    private static final int CALLS_AT_ONCE = 180;
    private static final int[] FAR = {Integer.MIN_VALUE, -1000, -2, -1, 36, 37, 99, 100, 101, 1000, Integer.MAX_VALUE};

    private final Random random;
    private final GuideWalksLast x = new GuideWalksLast();
    private final Plain plain = new Plain();
    private final StringBuilder calls = new StringBuilder();
    private int made;
    private int wrong;

    private PlainTest(int seed) {
        random = new Random(seed);
    }

    public static void main(String[] args) {
        int wrong = 0;
        long asked = 0;
        for (int seed = 1; seed <= RUNS && wrong < 5; seed++) {
            PlainTest run = new PlainTest(seed);
            run.go();
            wrong += run.wrong;
            asked += run.made;
        }
        System.out.println("PlainTest: " + asked + " calls, " + wrong + " runs not as due");
        if (wrong != 0) {
            System.exit(1);
        }
    }

    private void go() {
        while (made <= CALLS - CALLS_AT_ONCE && wrong == 0) {
            call();
            if (random.nextInt(3) == 0) {
                checkRow();
            }
            if (random.nextInt(6) == 0) {
                checkCounts();
            }
        }
        checkCounts();
        checkRow();
        if (made > CALLS) {
            throw new IllegalStateException("a run of " + made + " calls");
        }
    }

    private void checkCounts() {
        for (int what = -1; what <= 12; what++) {
            check("count(" + what + ")", x.count(what), plain.count(what));
        }
    }

    private void checkRow() {
        int size = plain.row.size();
        check("count(10)", x.count(10), size);
        for (int i = 0; i < size && wrong == 0; i++) {
            check("row(" + i + ")", x.row(i), plain.row.get(i));
        }
        check("row(" + size + ") throws", Due.throwsAt(x, size), true);
    }

    /** What one call answered. */
    private void check(String call, Object got, Object want) {
        made++;
        calls.append(call).append(" = ").append(want).append('\n');
        if (!got.equals(want) && wrong == 0) {
            wrong = 1;
            String all = calls.toString();
            System.out.println(all.substring(Math.max(0, all.length() - 3000)));
            System.out.println("but the class answered " + got);
        }
    }

    /** Mostly of 0 .. most, at times just beyond or far off. */
    private int number(int most) {
        int kind = random.nextInt(30);
        return kind == 0 ? FAR[random.nextInt(FAR.length)] : kind == 1 ? most + 1 : kind == 2 ? -1
            : random.nextInt(most + 1);
    }

    private int aCell() {
        return number(Math.max(0, plain.count(0) - 1));
    }

    private void call() {
        switch (random.nextInt(10)) {
            case 0: callMoor(); break;
            case 1: case 2: case 3: callSteps(); break;
            case 4: callChances(); break;
            case 5: callFees(); break;
            case 6: callTracksAndSounds(); break;
            case 7: case 8: callPrintsAndHire(); break;
            default: callKept(); break;
        }
    }

    private void tellText(String text) {
        check("end(0)", x.end(0), plain.end(0));
        for (int i = 0; i < text.length(); i += 4) {
            int v = 0;
            for (int j = i; j < i + 4; j++) {
                v = v << 8 | (j < text.length() ? text.charAt(j) : random.nextInt(256));
            }
            check("sign(" + v + ")", x.sign(v), plain.sign(v));
        }
        if (random.nextInt(30) != 0) {
            check("end(" + text.length() + ")", x.end(text.length()), plain.end(text.length()));
        }
    }

    private String signsOf(String signs, int many) {
        StringBuilder text = new StringBuilder();
        for (int i = 0; i < many; i++) {
            text.append(signs.charAt(random.nextInt(signs.length())));
        }
        return text.toString();
    }

    private String spoilt(String text) {
        if (random.nextInt(4) != 0) {
            return text;
        }
        StringBuilder spoilt = new StringBuilder(text);
        int at = random.nextInt(text.length() + 1);
        String sign = signsOf(".o#H/lor+-*hxsa0123 \0\u00ff", 1);
        if (random.nextInt(3) == 0 || at == text.length()) {
            spoilt.insert(at, sign);
        } else if (random.nextBoolean()) {
            spoilt.deleteCharAt(at);
        } else {
            spoilt.setCharAt(at, sign.charAt(0));
        }
        return spoilt.toString();
    }

    private String aMoor() {
        int wide = 1 + random.nextInt(6);
        int high = 1 + random.nextInt(random.nextInt(12) == 0 ? 7 : 6);
        String[] kinds = {".", "....oH", "........o#H", "..o#H", "......o", ".........#H", "...#"};
        String signs = kinds[random.nextInt(kinds.length)];
        StringBuilder text = new StringBuilder();
        for (int row = 0; row < high; row++) {
            text.append(row == 0 ? "" : "/").append(signsOf(signs, wide));
        }
        return spoilt(text.toString());
    }

    private String aFee() {
        StringBuilder text = new StringBuilder();
        int things = random.nextInt(random.nextInt(6) == 0 ? 16 : 5);
        for (int i = 0; i < things; i++) {
            text.append(i == 0 ? "" : signsOf("+-", 1));
            int kind = random.nextInt(4);
            if (kind < 3) {
                text.append(random.nextInt(random.nextBoolean() ? 100 : 10));
            }
            text.append(kind == 1 || kind == 2 ? "*" : "").append(kind == 0 ? "" : signsOf("hxsa", 1));
            if (kind == 0) {
                text.append("*").append(signsOf("hxsa", 1));
            }
        }
        return spoilt(text.toString());
    }

    private void callMoor() {
        int a = aCell();
        int b = number(3);
        switch (random.nextInt(12)) {
            case 0: case 1: tellText(aMoor()); check("moor()", x.moor(), plain.moor()); break;
            case 2: check("put " + a + " " + b, x.put(a, b), plain.put(a, b)); break;
            case 3: case 4: case 5: check("go " + a + " " + b, x.go(a, b), plain.go(a, b)); break;
            case 6: case 7: callWeights(); break;
            case 8: callSet(); break;
            case 9: callSheet(); break;
            case 10: check("cell " + a, x.cell(a), plain.cell(a)); break;
            default: callEnd(); break;
        }
    }

    private void callWeights() {
        int left = random.nextInt(3) == 0 ? 0 : number(10);
        int on = random.nextInt(3) == 0 ? 10 - left : number(10);
        check("weights " + left + " " + on, x.weights(left, on), plain.weights(left, on));
    }

    private void callSet() {
        int what = number(1);
        int v = number(what == 0 ? 9 : 10);
        check("set " + what + " " + v, x.set(what, v), plain.set(what, v));
    }

    private void callSheet() {
        int kind = number(3);
        int n = number(36);
        int f = random.nextInt();
        int step = random.nextInt(4) == 0 ? random.nextInt() : random.nextInt(4) * 4;
        if (random.nextInt(3) == 0) {
            check("sheet " + kind + " " + n + " " + f + " " + step, x.sheet(kind, n, f, step),
                plain.sheet(kind, n, f, step));
        }
    }

    private void callEnd() {
        int v = random.nextInt();
        check("sign " + v, x.sign(v), plain.sign(v));
        int n = number(80);
        check("end " + n, x.end(n), plain.end(n));
        switch (random.nextInt(6)) {
            case 0: check("moor()", x.moor(), plain.moor()); break;
            case 1: check("fee()", x.fee(), plain.fee()); break;
            case 2: check("look()", x.look(), plain.look()); break;
            default: break;
        }
    }

    private void callSteps() {
        int turn = number(2);
        switch (random.nextInt(9)) {
            case 0: case 1: check("step " + turn, x.step(turn), plain.step(turn)); break;
            case 2: check("alone", x.alone(), plain.alone()); break;
            case 3: check("ask " + turn, x.ask(turn), plain.ask(turn)); break;
            case 4: check("undo", x.undo(), plain.undo()); break;
            case 5: tellText(spoilt(signsOf("lor", random.nextInt(random.nextInt(4) == 0 ? 34 : 9))));
                check("look", x.look(), plain.look()); break;
            case 6: check("way", x.way(), plain.way()); break;
            case 7: check("reach", x.reach(), plain.reach()); break;
            default: for (int i = 0; i < 3; i++) {
                int t = random.nextInt(3);
                check("step " + t, x.step(t), plain.step(t));
            }
        }
    }

    private void callChances() {
        int n = random.nextInt(4) == 0 ? number(8) : number(5);
        int p = random.nextBoolean() ? number(100) : number(40);
        int c = aCell();
        switch (random.nextInt(9)) {
            case 0: check("never " + n, x.never(n), plain.never(n)); break;
            case 1: check("best " + n, x.best(n), plain.best(n)); break;
            case 2: check("fewest " + n + " " + p, x.fewest(n, p), plain.fewest(n, p)); break;
            case 3: case 4: check("should " + n, x.should(n), plain.should(n)); break;
            case 5: check("safest " + n, x.safest(n), plain.safest(n)); break;
            case 6: check("perils " + n, x.perils(n), plain.perils(n)); break;
            case 7: check("behind " + c + " " + n, x.behind(c, n), plain.behind(c, n)); break;
            default: check("loud " + n + " " + p, x.loud(n, p), plain.loud(n, p)); break;
        }
    }

    private void callFees() {
        int n = number(5);
        int i = number(2);
        switch (random.nextInt(7)) {
            case 0: check("owed", x.owed(), plain.owed()); break;
            case 1: check("greed " + n, x.greed(n), plain.greed(n)); break;
            case 2: check("honest " + n, x.honest(n), plain.honest(n)); break;
            case 3: check("shelf " + i, x.shelf(i), plain.shelf(i)); break;
            case 4: check("fairest " + n, x.fairest(n), plain.fairest(n)); break;
            default: tellText(aFee()); check("fee", x.fee(), plain.fee()); break;
        }
    }

    private void callTracksAndSounds() {
        int c = aCell();
        switch (random.nextInt(9)) {
            case 0: case 1: check("track " + c, x.track(c), plain.track(c)); break;
            case 2: case 3: check("follow " + c, x.follow(c), plain.follow(c)); break;
            case 4: case 5: check("warned", x.warned(), plain.warned()); break;
            case 6: callCodes(); break;
            case 7: callMeant(); break;
            default: if (random.nextInt(4) == 0) {
                check("rain", x.rain(), plain.rain());
            }
        }
    }

    private void callCodes() {
        int n = number(5);
        int d = number(Math.max(1, Math.min(5, n)));
        check("codes " + n + " " + d, x.codes(n, d), plain.codes(n, d));
    }

    private void callMeant() {
        int n = number(5);
        int most = n >= 1 && n <= 5 ? (1 << n) - 1 : 31;
        int word = number(most);
        int lost = number(most);
        int list = random.nextInt();
        if (n >= 0 && n < 5 && random.nextInt(4) != 0) {
            list &= (1 << (1 << n)) - 1;
        }
        check("meant " + n + " " + word + " " + lost + " " + list, x.meant(n, word, lost, list),
            plain.meant(n, word, lost, list));
    }

    private void callPrintsAndHire() {
        int c = aCell();
        switch (random.nextInt(10)) {
            case 0: case 1: callWalkOfPrints(); break;
            case 2: callPrint(c, number(3)); break;
            case 3: check("wipe", x.wipe(), plain.wipe()); break;
            case 4: check("rows", x.rows(), plain.rows()); break;
            case 5: case 6: check("lies", x.lies(), plain.lies()); break;
            case 7: callWorth(); break;
            case 8: int n = number(5); check("hire " + n, x.hire(n), plain.hire(n)); break;
            default: int i = number(4); int k = number(5);
                check("hoarse " + i + " " + k, x.hoarse(i, k), plain.hoarse(i, k)); break;
        }
    }

    private void callPrint(int c, int heading) {
        check("print " + c + " " + heading, x.print(c, heading), plain.print(c, heading));
    }

    /** Prints of a walk as THE PARTY could go, told as look() tells it. */
    private void callWalkOfPrints() {
        check("wipe", x.wipe(), plain.wipe());
        callPrint(plain.count(2), plain.count(3));
        String walk = signsOf("lor", random.nextInt(random.nextInt(4) == 0 ? 13 : 6));
        for (int i = 1; i <= walk.length(); i++) {
            tellText(walk.substring(0, i));
            check("end " + i, x.end(i), plain.end(i));
            int c = plain.look();
            check("look", x.look(), c);
            callPrint(c, 0);
        }
        check("rows", x.rows(), plain.rows());
        check("lies", x.lies(), plain.lies());
    }

    private void callWorth() {
        for (int times = 0; times < 4; times++) {
            int i = number(4);
            int k = number(4);
            int v = number(random.nextBoolean() ? 99 : 3);
            check("worth " + i + " " + k + " " + v, x.worth(i, k, v), plain.worth(i, k, v));
        }
    }

    private void callKept() {
        int i = number(2);
        int v = random.nextInt();
        switch (random.nextInt(5)) {
            case 0: check("seed " + v, x.seed(v), plain.seed(v)); break;
            case 1: case 2: check("keep " + i, x.keep(i), plain.keep(i)); break;
            default: check("again " + i, x.again(i), plain.again(i)); break;
        }
    }
}
