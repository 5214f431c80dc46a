import java.math.BigInteger;
import java.util.ArrayDeque;
import java.util.ArrayList;
import java.util.Arrays;
import java.util.HashMap;
import java.util.List;
import java.util.Map;
import java.util.TreeMap;
import java.util.TreeSet;
import java.util.regex.Matcher;
import java.util.regex.Pattern;

/**
 * A second reading of the document, slow and by other ways than the class: fractions of BigInteger, paths tried one by
 * one, texts by regular expressions. PlainTest holds the class against it.
 */
final class Plain {
    private static final String SIGNS = ".o#H";
    private static final String CELL = "[.o#H]";
    private static final String THING = "([0-9]{1,2}(\\*[hxsa])?|[hxsa])";
    private static final Pattern FEE = Pattern.compile(THING + "([+-]" + THING + ")*");
    private static final int[] DOWN = {-1, 0, 1, 0};
    private static final int[] ASIDE = {0, 1, 0, -1};
    private static final Map<Integer, List<Integer>> CODES = new HashMap<>();

    /** What undo and again bring back. */
    private static final class State {
        int cell;
        int heading;
        int voice = 9;
        int r = 1;
        int steps;
        int asks;
        TreeMap<Integer, Integer> tracks = new TreeMap<>();
        int kind;

        State copy() {
            State s = new State();
            s.cell = cell;
            s.heading = heading;
            s.voice = voice;
            s.r = r;
            s.steps = steps;
            s.asks = asks;
            s.tracks = new TreeMap<>(tracks);
            s.kind = kind;
            return s;
        }
    }

    /** A fraction. */
    private static final class Q implements Comparable<Q> {
        static final Q ZERO = new Q(0, 1);
        static final Q ONE = new Q(1, 1);
        final BigInteger up;
        final BigInteger low;

        Q(long up, long low) {
            this(BigInteger.valueOf(up), BigInteger.valueOf(low));
        }

        Q(BigInteger up, BigInteger low) {
            BigInteger g = up.gcd(low);
            this.up = up.divide(g);
            this.low = low.divide(g);
        }

        Q plus(Q o) {
            return new Q(up.multiply(o.low).add(o.up.multiply(low)), low.multiply(o.low));
        }

        Q minus(Q o) {
            return plus(o.times(new Q(-1, 1)));
        }

        Q times(Q o) {
            return new Q(up.multiply(o.up), low.multiply(o.low));
        }

        @Override
        public int compareTo(Q o) {
            return up.multiply(o.low).compareTo(o.up.multiply(low));
        }
    }

    private StringBuilder text = new StringBuilder();
    final List<Long> row = new ArrayList<>();
    private char[][] moor = {{'.'}};
    private State now = new State();
    private final ArrayDeque<State> past = new ArrayDeque<>();
    private final State[] kept = new State[3];
    private int[] weights = {0, 10, 0};
    private int heard = 10;
    private String fee = "";
    private final String[] shelf = new String[3];
    private final List<Integer> prints = new ArrayList<>();
    private int printHeading;
    private final int[][] worth = new int[5][5];

    // ---- the moor

    private int wide() {
        return moor[0].length;
    }

    private int cells() {
        return moor.length * wide();
    }

    private boolean has(int c) {
        return c >= 0 && c < cells();
    }

    int cell(int c) {
        return has(c) ? SIGNS.indexOf(moor[c / wide()][c % wide()]) : -1;
    }

    private void put0(int c, int what) {
        moor[c / wide()][c % wide()] = SIGNS.charAt(what);
    }

    int sign(int v) {
        if (text.length() > 76) {
            return -1;
        }
        for (byte b : java.nio.ByteBuffer.allocate(4).putInt(v).array()) {
            text.append((char) Byte.toUnsignedInt(b));
        }
        return text.length();
    }

    boolean end(int n) {
        if (n < 0 || n > text.length()) {
            return false;
        }
        text.setLength(n);
        return true;
    }

    private static boolean canStand(String text, Pattern... patterns) {
        for (Pattern p : patterns) {
            Matcher m = p.matcher(text);
            if (m.matches() || m.hitEnd()) {
                return true;
            }
        }
        return false;
    }

    private static boolean isWhole(String text, Pattern... patterns) {
        for (Pattern p : patterns) {
            if (p.matcher(text).matches()) {
                return true;
            }
        }
        return false;
    }

    /** 0, or -1 - p. */
    private static int fault(String text, int most, Pattern... patterns) {
        for (int p = 0; p < text.length(); p++) {
            if (p == most || !canStand(text.substring(0, p + 1), patterns)) {
                return -1 - p;
            }
        }
        return isWhole(text, patterns) ? 0 : -1 - text.length();
    }

    private String read() {
        String s = text.toString();
        text = new StringBuilder();
        return s;
    }

    int moor() {
        String s = read();
        Pattern[] patterns = new Pattern[6];
        for (int w = 1; w <= 6; w++) {
            String line = CELL + "{" + w + "}";
            patterns[w - 1] = Pattern.compile(line + "(/" + line + "){0,5}(/\u1234)?");
        }
        int fault = fault(s, 44, patterns);
        if (fault != 0) {
            return fault;
        }
        String[] lines = s.split("/");
        moor = new char[lines.length][];
        for (int i = 0; i < lines.length; i++) {
            moor[i] = lines[i].toCharArray();
        }
        now.cell = 0;
        now.heading = 0;
        now.steps = 0;
        now.asks = 0;
        now.tracks.clear();
        prints.clear();
        past.clear();
        Arrays.fill(kept, null);
        return cells();
    }

    int fee() {
        String s = read();
        int fault = s.isEmpty() ? 0 : fault(s, 30, FEE);
        if (fault == 0) {
            fee = s;
        }
        return fault;
    }

    int put(int c, int what) {
        if (!has(c) || what < 0 || what > 3 || c == now.cell) {
            return -1;
        }
        int was = cell(c);
        put0(c, what);
        past.clear();
        return was;
    }

    boolean go(int c, int heading) {
        if (cell(c) != 0 || heading < 0 || heading > 3) {
            return false;
        }
        now.cell = c;
        now.heading = heading;
        now.steps = 0;
        now.asks = 0;
        past.clear();
        return true;
    }

    boolean weights(int left, int on) {
        if (left < 0 || on < 0 || (long) left + on > 10) {
            return false;
        }
        weights = new int[] {left, on, 10 - left - on};
        return true;
    }

    int set(int what, int v) {
        int was = -1;
        if (what == 0 && v >= 0 && v < 10) {
            was = now.voice;
            now.voice = v;
        }
        if (what == 1 && v >= 0 && v < 11) {
            was = heard;
            heard = v;
        }
        return was;
    }

    int sheet(int kind, int n, int f, int step) {
        if (kind < 0 || kind > 3 || n > 36) {
            return -1;
        }
        if (kind < 3 && n < 0) {
            return -2;
        }
        past.clear();
        int[] entries = new int[kind == 3 ? 0 : n];
        for (int i = 0; i < entries.length; i++) {
            int e = f + i * step;
            entries[i] = kind == 0 ? (byte) e : kind == 1 ? (short) e : e;
        }
        int many = 0;
        for (int c = 0; c < cells(); c++) {
            if (c != now.cell) {
                put0(c, c < entries.length ? Math.floorMod(entries[c], 4) : 0);
            }
            many += cell(c) != 0 ? 1 : 0;
        }
        return kind == 3 ? -3 : many;
    }

    // ---- steps; a place is {CELL, HEADING}

    private int[] next(int c, int heading, int turn) {
        int h = Math.floorMod(heading + turn - 1, 4);
        int line = c / wide() + DOWN[h];
        int column = c % wide() + ASIDE[h];
        if (line < 0 || line >= moor.length || column < 0 || column >= wide() || moor[line][column] == '#') {
            return new int[] {c, h};
        }
        return new int[] {line * wide() + column, h};
    }

    /** 0, 1 SUNK, 2 HOME. */
    private int fate(int c) {
        return cell(c) == 1 ? 1 : cell(c) == 3 ? 2 : 0;
    }

    private int draw(int n) {
        now.r = (int) (now.r * 1103515245L + 12345L);
        return (int) ((now.r & 0xffffffffL) / 65536 % n);
    }

    private int drawTurn() {
        int d = draw(10);
        int[] turns = new int[10];
        Arrays.fill(turns, 2);
        Arrays.fill(turns, 0, weights[0] + weights[1], 1);
        Arrays.fill(turns, 0, weights[0], 0);
        return turns[d];
    }

    private void save() {
        past.addLast(now.copy());
        if (past.size() > 20) {
            past.removeFirst();
        }
    }

    private int move(int turn) {
        int[] to = next(now.cell, now.heading, turn);
        if (to[0] != now.cell) {
            now.tracks.put(now.cell, to[0]);
        }
        now.cell = to[0];
        now.heading = to[1];
        now.steps++;
        return now.cell;
    }

    private void tell(long... numbers) {
        row.clear();
        for (long n : numbers) {
            row.add(n);
        }
    }

    int step(int turn) {
        if (turn < 0 || turn > 2) {
            return -1;
        }
        if (fate(now.cell) != 0) {
            return -2;
        }
        save();
        return move(turn);
    }

    int alone() {
        if (fate(now.cell) != 0) {
            return -2;
        }
        save();
        int turn = drawTurn();
        tell(turn);
        return move(turn);
    }

    int ask(int turn) {
        if (turn < 0 || turn > 2) {
            return -1;
        }
        if (fate(now.cell) != 0) {
            return -2;
        }
        if (now.voice == 0) {
            return -3;
        }
        save();
        now.voice--;
        now.asks++;
        boolean isHeard = draw(10) < heard;
        int t = isHeard ? turn : drawTurn();
        tell(isHeard ? 1 : 0, t);
        return move(t);
    }

    int undo() {
        if (past.isEmpty()) {
            return -1;
        }
        now = past.removeLast();
        return past.size();
    }

    int look() {
        String s = read();
        int bad = s.replaceFirst("[^lor](?s:.*)", "").length();
        if (Math.min(bad, 30) < s.length()) {
            return -1 - Math.min(bad, 30);
        }
        int[] at = {now.cell, now.heading};
        int done = 0;
        for (char sign : s.toCharArray()) {
            if (fate(at[0]) == 0) {
                at = next(at[0], at[1], "lor".indexOf(sign));
                done++;
            }
        }
        tell(done, fate(at[0]));
        return at[0];
    }

    /** The least of the shortest rows of TURNS to HOME, by trying them in order; null if there is none. */
    private List<Integer> wayFrom(int c, int heading) {
        ArrayDeque<int[]> places = new ArrayDeque<>();
        ArrayDeque<List<Integer>> turns = new ArrayDeque<>();
        TreeSet<Integer> seen = new TreeSet<>();
        places.add(new int[] {c, heading});
        turns.add(List.of());
        seen.add(c * 4 + heading);
        while (!places.isEmpty()) {
            int[] at = places.remove();
            List<Integer> way = turns.remove();
            if (fate(at[0]) == 2) {
                return way;
            }
            for (int t = 0; t < 3 && fate(at[0]) == 0; t++) {
                int[] to = next(at[0], at[1], t);
                if (seen.add(to[0] * 4 + to[1])) {
                    places.add(to);
                    List<Integer> longer = new ArrayList<>(way);
                    longer.add(t);
                    turns.add(longer);
                }
            }
        }
        return null;
    }

    int way() {
        List<Integer> way = wayFrom(now.cell, now.heading);
        if (way == null) {
            return -2;
        }
        row.clear();
        for (int t : way.subList(0, Math.min(10, way.size()))) {
            row.add((long) t);
        }
        return way.size();
    }

    private void spread(int c, int heading, int left, int turns, Map<Integer, Integer> most) {
        int place = c * 4 + heading;
        if (most.getOrDefault(place, -1) >= left) {
            return;
        }
        most.put(place, left);
        for (int t = 0; t < 3 && left > 0 && fate(c) == 0; t++) {
            if ((turns & 1 << t) != 0) {
                int[] to = next(c, heading, t);
                spread(to[0], to[1], left - 1, turns, most);
            }
        }
    }

    private int tellCells(TreeSet<Integer> cells) {
        long[] bits = new long[2];
        for (int c : cells) {
            bits[c / 18] += 1L << c % 18;
        }
        tell(bits);
        return cells.size();
    }

    int reach() {
        Map<Integer, Integer> places = new HashMap<>();
        spread(now.cell, now.heading, 200, 7, places);
        TreeSet<Integer> cells = new TreeSet<>();
        places.keySet().forEach(p -> cells.add(p / 4));
        return tellCells(cells);
    }

    // ---- chances

    private Map<Integer, Q> ahead(int n) {
        Map<Integer, Q> places = new HashMap<>();
        places.put(now.cell * 4 + now.heading, Q.ONE);
        for (int i = 0; i < n; i++) {
            Map<Integer, Q> then = new HashMap<>();
            places.forEach((p, q) -> {
                if (fate(p / 4) != 0) {
                    then.merge(p, q, Q::plus);
                    return;
                }
                for (int t = 0; t < 3; t++) {
                    int[] to = next(p / 4, p % 4, t);
                    then.merge(to[0] * 4 + to[1], q.times(new Q(weights[t], 10)), Q::plus);
                }
            });
            places = then;
        }
        return places;
    }

    private Q chanceOf(int n, java.util.function.IntPredicate cell) {
        Q sum = Q.ZERO;
        for (Map.Entry<Integer, Q> e : ahead(n).entrySet()) {
            sum = cell.test(e.getKey() / 4) ? sum.plus(e.getValue()) : sum;
        }
        return sum;
    }

    private void tellFractions(Q... fractions) {
        row.clear();
        for (Q q : fractions) {
            row.add(q.up.longValueExact());
            row.add(q.low.longValueExact());
        }
    }

    int never(int n) {
        if (n < 0 || n > 8) {
            return -1;
        }
        tellFractions(chanceOf(n, c -> fate(c) == 2), chanceOf(n, c -> fate(c) == 1));
        return 0;
    }

    int behind(int cell, int n) {
        if (!has(cell) || n < 0 || n > 8) {
            return -1;
        }
        Q mean = Q.ZERO;
        for (int i = 0; i < n; i++) {
            mean = mean.plus(chanceOf(i, c -> fate(c) == 0));
        }
        tellFractions(chanceOf(n, c -> c == cell), mean);
        return 0;
    }

    /** What a guide has of it: on the mean of what it wants, and the chance to be HOME; and what it calls first. */
    private static final class Led {
        final Q wanted;
        final Q home;
        final int call;

        Led(Q wanted, Q home, int call) {
            this.wanted = wanted;
            this.home = home;
            this.call = call;
        }

        boolean isBetterThan(Led o) {
            int by = wanted.compareTo(o.wanted);
            return by > 0 || by == 0 && home.compareTo(o.home) > 0;
        }
    }

    private interface Want {
        long at(int fate, int steps, int asks);
    }

    private Led led(int[] at, int voice, int left, int s, int a, int loud, Want want, Map<String, Led> known) {
        String key = at[0] + " " + at[1] + " " + voice + " " + left + " " + s + " " + a;
        Led led = known.get(key);
        if (led == null) {
            led = left == 0 || fate(at[0]) != 0
                ? new Led(new Q(want.at(fate(at[0]), s, a), 1), fate(at[0]) == 2 ? Q.ONE : Q.ZERO, 3)
                : ledOn(at, voice, left, s, a, loud, want, known);
            known.put(key, led);
        }
        return led;
    }

    private Led ledOn(int[] at, int voice, int left, int s, int a, int loud, Want want, Map<String, Led> known) {
        Led best = null;
        for (int call : new int[] {3, 0, 1, 2}) {
            boolean asks = call < 3;
            if (asks && voice == 0) {
                continue;
            }
            Q wanted = Q.ZERO;
            Q home = Q.ZERO;
            for (int t = 0; t < 3; t++) {
                Q itself = new Q(weights[t], 10);
                Q chance = !asks ? itself
                    : new Q(10 - loud, 10).times(itself).plus(t == call ? new Q(loud, 10) : Q.ZERO);
                if (chance.up.signum() != 0) {
                    Led then = led(next(at[0], at[1], t), asks ? voice - 1 : voice, left - 1, s + 1,
                        asks ? a + 1 : a, loud, want, known);
                    wanted = wanted.plus(chance.times(then.wanted));
                    home = home.plus(chance.times(then.home));
                }
            }
            Led led = new Led(wanted, home, call);
            if (best == null || led.isBetterThan(best)) {
                best = led;
            }
        }
        return best;
    }

    private Led lead(int n, int voice, int loud, Want want) {
        return led(new int[] {now.cell, now.heading}, voice, n, 0, 0, loud, want, new HashMap<>());
    }

    private Led leadHome(int n, int voice, int loud) {
        return lead(n, voice, loud, (fate, s, a) -> fate == 2 ? 1 : 0);
    }

    int best(int n) {
        if (n < 0 || n > 8) {
            return -1;
        }
        tellFractions(leadHome(n, now.voice, heard).home);
        return 0;
    }

    int fewest(int n, int p) {
        if (n < 0 || n > 8 || p < 0 || p > 100) {
            return -1;
        }
        for (int v = 0; v < 10; v++) {
            if (leadHome(n, v, heard).home.compareTo(new Q(p, 100)) >= 0) {
                return v;
            }
        }
        return -2;
    }

    int should(int n) {
        if (n < 1 || n > 8) {
            return -1;
        }
        return fate(now.cell) != 0 ? -2 : leadHome(n, now.voice, heard).call;
    }

    int safest(int n) {
        if (n < 0 || n > 8) {
            return -1;
        }
        tellFractions(lead(n, now.voice, heard, (fate, s, a) -> fate == 1 ? 0 : 1).wanted);
        return 0;
    }

    int perils(int n) {
        if (n < 0 || n > 8) {
            return -1;
        }
        TreeSet<Integer> cells = new TreeSet<>();
        if (fate(now.cell) == 0) {
            int turns = (weights[0] > 0 ? 1 : 0) + (weights[1] > 0 ? 2 : 0) + (weights[2] > 0 ? 4 : 0);
            Map<Integer, Integer> places = new HashMap<>();
            spread(now.cell, now.heading, n, turns, places);
            places.keySet().forEach(p -> cells.add(p / 4));
            cells.removeIf(c -> fate(c) != 1);
        }
        return tellCells(cells);
    }

    int loud(int n, int p) {
        if (n < 0 || n > 8 || p < 0 || p > 100) {
            return -1;
        }
        for (int l = 0; l <= 10; l++) {
            if (leadHome(n, now.voice, l).home.compareTo(new Q(p, 100)) >= 0) {
                return l;
            }
        }
        return -2;
    }

    // ---- fees

    private static long pay(String fee, int fate, int steps, int asks) {
        long sum = 0;
        Matcher m = Pattern.compile("([+-]?)([0-9]*)\\*?([hxsa]?)").matcher(fee);
        while (m.find()) {
            if (m.group(2).isEmpty() && m.group(3).isEmpty()) {
                continue;
            }
            long thing = m.group(2).isEmpty() ? 1 : Long.parseLong(m.group(2));
            switch (m.group(3)) {
                case "h": thing *= fate == 2 ? 1 : 0; break;
                case "x": thing *= fate == 1 ? 1 : 0; break;
                case "s": thing *= steps; break;
                case "a": thing *= asks; break;
                default: break;
            }
            sum += m.group(1).equals("-") ? -thing : thing;
        }
        return sum;
    }

    int owed() {
        return (int) pay(fee, fate(now.cell), now.steps, now.asks);
    }

    private Led greedy(String by, int n) {
        Map<Integer, Long> paid = new HashMap<>();
        return lead(n, now.voice, heard, (fate, s, a) ->
            paid.computeIfAbsent(fate * 100 + s * 10 + a, k -> pay(by, fate, s, a)));
    }

    int greed(int n) {
        if (n < 0 || n > 5) {
            return -1;
        }
        Led led = greedy(fee, n);
        tellFractions(led.wanted, led.home);
        return 0;
    }

    int honest(int n) {
        if (n < 0 || n > 5) {
            return -1;
        }
        Q less = leadHome(n, now.voice, heard).home.minus(greedy(fee, n).home);
        tellFractions(less);
        return less.up.signum() == 0 ? 1 : 0;
    }

    boolean shelf(int i) {
        if (i < 0 || i > 2) {
            return false;
        }
        shelf[i] = fee;
        return true;
    }

    int fairest(int n) {
        if (n < 0 || n > 5) {
            return -1;
        }
        List<Q> chances = new ArrayList<>();
        int fairest = -2;
        Q most = null;
        for (int i = 0; i < 3; i++) {
            if (shelf[i] != null) {
                Q chance = greedy(shelf[i], n).home;
                chances.add(chance);
                if (most == null || chance.compareTo(most) > 0) {
                    most = chance;
                    fairest = i;
                }
            }
        }
        if (!chances.isEmpty()) {
            tellFractions(chances.toArray(new Q[0]));
        }
        return fairest;
    }

    // ---- tracks

    int track(int c) {
        return now.tracks.getOrDefault(c, -1);
    }

    int rain() {
        int many = now.tracks.size();
        now.tracks.clear();
        return many;
    }

    /** {the last CELL, STEPS, how it ends}. */
    private int[] tail(int c) {
        List<Integer> seen = new ArrayList<>(List.of(c));
        int at = c;
        while (now.tracks.containsKey(at)) {
            at = now.tracks.get(at);
            if (seen.contains(at)) {
                return new int[] {at, seen.size(), 3};
            }
            seen.add(at);
        }
        return new int[] {at, seen.size() - 1, fate(at)};
    }

    int follow(int c) {
        if (!has(c)) {
            return -1;
        }
        int[] tail = tail(c);
        tell(tail[1], tail[2]);
        return tail[0];
    }

    int warned() {
        TreeSet<Integer> cells = new TreeSet<>();
        for (int c : now.tracks.keySet()) {
            for (int h = 0; h < 4; h++) {
                if (tail(c)[2] % 2 == 1 && wayFrom(c, h) != null) {
                    cells.add(c);
                }
            }
        }
        if (cells.isEmpty()) {
            return -2;
        }
        tell(cells.size());
        return cells.first();
    }

    // ---- calls of two sounds

    private static void search(int n, int d, int word, List<Integer> taken, List<Integer> best) {
        if (taken.size() + (1 << n) - word <= best.size()) {
            return;
        }
        if (word == 1 << n) {
            best.clear();
            best.addAll(taken);
            return;
        }
        boolean isFar = true;
        for (int t : taken) {
            isFar &= Integer.bitCount(t ^ word) >= d;
        }
        if (isFar) {
            taken.add(word);
            search(n, d, word + 1, taken, best);
            taken.remove(taken.size() - 1);
        }
        search(n, d, word + 1, taken, best);
    }

    int codes(int n, int d) {
        if (n < 1 || n > 5 || d < 1 || d > n) {
            return -1;
        }
        List<Integer> words = CODES.computeIfAbsent(n * 10 + d, k -> {
            List<Integer> best = new ArrayList<>();
            search(n, d, 0, new ArrayList<>(), best);
            return best;
        });
        row.clear();
        for (int w : words.subList(0, Math.min(16, words.size()))) {
            row.add((long) w);
        }
        return words.size();
    }

    int meant(int n, int word, int lost, int list) {
        if (n < 1 || n > 5) {
            return -1;
        }
        long words = list & 0xffffffffL;
        int all = 1 << n;
        if (word < 0 || word >= all || lost < 0 || lost >= all || words >= 1L << all) {
            return -1;
        }
        long found = 0;
        for (int w = 0; w < all; w++) {
            boolean isAlike = (words & 1L << w) != 0;
            for (int bit = 0; bit < n; bit++) {
                boolean isLost = (lost & 1 << bit) != 0;
                isAlike &= isLost || (word & 1 << bit) == (w & 1 << bit);
            }
            found += isAlike ? 1L << w : 0;
        }
        return (int) found;
    }

    // ---- prints at dawn

    int print(int c, int heading) {
        if (!has(c) || prints.size() == 12) {
            return -1;
        }
        if (prints.isEmpty()) {
            if (heading < 0 || heading > 3) {
                return -1;
            }
            printHeading = heading;
        } else {
            int last = prints.get(prints.size() - 1);
            int apart = Math.abs(last / wide() - c / wide()) + Math.abs(last % wide() - c % wide());
            if (apart > 1) {
                return -1;
            }
        }
        prints.add(c);
        return prints.size();
    }

    int wipe() {
        int many = prints.size();
        prints.clear();
        return many;
    }

    private void allRows(int[] at, List<Integer> turns, List<List<Integer>> found) {
        int i = turns.size();
        if (i == prints.size() - 1) {
            found.add(new ArrayList<>(turns));
            return;
        }
        for (int t = 0; t < 3 && fate(at[0]) == 0; t++) {
            int[] to = next(at[0], at[1], t);
            if (to[0] == prints.get(i + 1)) {
                turns.add(t);
                allRows(to, turns, found);
                turns.remove(i);
            }
        }
    }

    private List<List<Integer>> allRows() {
        List<List<Integer>> found = new ArrayList<>();
        allRows(new int[] {prints.get(0), printHeading}, new ArrayList<>(), found);
        return found;
    }

    private void tellTurns(List<Integer> turns) {
        row.clear();
        turns.forEach(t -> row.add((long) t));
    }

    long rows() {
        if (prints.isEmpty()) {
            return -2;
        }
        List<List<Integer>> found = allRows();
        tellTurns(found.isEmpty() ? List.of() : found.get(0));
        return found.size();
    }

    int lies() {
        if (prints.isEmpty()) {
            return -1;
        }
        Map<Integer, Integer> far = new HashMap<>();
        int fewest = -2;
        List<Integer> best = null;
        for (List<Integer> turns : allRows()) {
            int lies = 0;
            int[] at = {prints.get(0), printHeading};
            for (int t : turns) {
                int[] to = next(at[0], at[1], t);
                if (weights[t] == 0 && farFrom(at, far) != farFrom(to, far) + 1) {
                    lies++;
                }
                at = to;
            }
            if (best == null || lies < fewest) {
                best = turns;
                fewest = lies;
            }
        }
        if (best != null) {
            tellTurns(best);
        }
        return fewest;
    }

    private int farFrom(int[] at, Map<Integer, Integer> known) {
        return known.computeIfAbsent(at[0] * 4 + at[1], k -> {
            List<Integer> way = wayFrom(at[0], at[1]);
            return way == null ? -2 : way.size();
        });
    }

    // ---- hired

    int worth(int i, int k, int v) {
        if (i < 0 || i > 4 || k < 0 || k > 4 || v < 0 || v > 99) {
            return -1;
        }
        int was = worth[i][k];
        worth[i][k] = v;
        return was;
    }

    private int most(int n, int mute, List<Integer> guides, List<Integer> best) {
        if (guides.size() == n) {
            int sum = 0;
            for (int k = 0; k < n; k++) {
                sum += guides.get(k) == mute ? 0 : worth[guides.get(k)][k];
            }
            if (best.isEmpty() || sum > best.get(0)) {
                best.clear();
                best.add(sum);
                best.addAll(guides);
            }
            return best.get(0);
        }
        for (int i = 0; i < n; i++) {
            if (!guides.contains(i)) {
                guides.add(i);
                most(n, mute, guides, best);
                guides.remove(guides.size() - 1);
            }
        }
        return best.get(0);
    }

    int hire(int n) {
        if (n < 1 || n > 5) {
            return -1;
        }
        List<Integer> best = new ArrayList<>();
        int sum = most(n, -1, new ArrayList<>(), best);
        tellTurns(best.subList(1, best.size()));
        return sum;
    }

    int hoarse(int i, int n) {
        if (n < 1 || n > 5 || i < 0 || i >= n) {
            return -1;
        }
        return most(n, -1, new ArrayList<>(), new ArrayList<>()) - most(n, i, new ArrayList<>(), new ArrayList<>());
    }

    // ---- kept

    int seed(int v) {
        int was = now.r;
        now.r = v;
        return was;
    }

    boolean keep(int i) {
        if (i < 0 || i > 2) {
            return false;
        }
        kept[i] = now.copy();
        kept[i].kind = cell(now.cell);
        return true;
    }

    boolean again(int i) {
        if (i < 0 || i > 2 || kept[i] == null || kept[i].kind != cell(kept[i].cell)) {
            return false;
        }
        now = kept[i].copy();
        past.clear();
        return true;
    }

    int count(int what) {
        int[] counts = {cells(), wide(), now.cell, now.heading, fate(now.cell), now.voice, now.steps, now.asks,
            past.size(), prints.size(), row.size(), text.length()};
        return what >= 0 && what < counts.length ? counts[what] : -1;
    }
}
