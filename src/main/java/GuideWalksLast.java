import java.util.Arrays;
import java.util.NoSuchElementException;

/**
 * A party walks over a moor, the guide behind it calls: steps, chances, fees, tracks, codes, prints and hiring,
 * as the document's promises have them. All rows are made with the object and used again; no call makes another.
 */
public final class GuideWalksLast {
    public static final int NONE = -1;

    private static final int CANNOT = -2;
    private static final int LACKS = -3;

    private static final int FIRM = 0;
    private static final int BOG = 1;
    private static final int STONE = 2;
    private static final int HOME = 3;

    private static final int SIDE = 6;
    private static final int CELLS = 36;
    private static final int HALF_OF_CELLS = 18;
    private static final int HEADINGS = 4;
    private static final int STANCES = 144;

    private static final int TURNS = 3;
    private static final int ALL_TURNS = 7;
    private static final int BY_ITSELF = 3;
    private static final int TENTHS = 10;
    private static final int HUNDRED = 100;
    private static final int LOUDEST_VOICE = 9;

    private static final int MOST_SIGNS = 80;
    private static final int MOST_OF_A_FEE = 30;
    private static final int MOST_OF_A_WALK = 30;
    private static final int MOST_OF_A_ROW = 16;
    private static final int MOST_OF_A_WAY = 10;
    private static final int MOST_UNDONE = 20;
    private static final int MOST_PRINTS = 12;
    private static final int MOST_STEPS = 8;
    private static final int MOST_PAID_STEPS = 5;
    private static final int PLACES = 3;
    private static final int MOST_SOUNDS = 5;
    private static final int GUIDES = 5;
    private static final int MOST_WORTH = 99;
    private static final int LAYER = 1296;

    private static final long[] HUNDREDS = {
        1L, 100L, 10000L, 1000000L, 100000000L, 10000000000L, 1000000000000L, 100000000000000L, 10000000000000000L};

    private final Signs text = new Signs();
    private final Numbers told = new Numbers();
    private final Land land;
    private final Party party;
    private final Past past = new Past();
    private final int[] weight;
    private int heard = TENTHS;
    private final Fee pay = new Fee();
    private final Fee draft = new Fee();
    private final Fee aim = new Fee();
    private final Fee[] laid = new Fee[PLACES];
    private final boolean[] isLaid = new boolean[PLACES];
    private final Party[] kept = new Party[PLACES];
    private final int[] keptKind = new int[PLACES];
    private final Guide guide;
    private final Spread spread = new Spread();
    private final Trail trail;
    private final Prints prints;
    private final Market market = new Market();

    public GuideWalksLast() {
        Land ground = new Land();
        Party walkers = new Party();
        int[] tenths = {0, TENTHS, 0};
        land = ground;
        party = walkers;
        weight = tenths;
        guide = new Guide(ground, tenths);
        trail = new Trail(ground, walkers);
        prints = new Prints(ground, tenths);
        for (int i = 0; i < PLACES; i++) {
            laid[i] = new Fee();
            kept[i] = new Party();
            keptKind[i] = NONE;
        }
    }

    // ---- the moor

    public int sign(int v) {
        return text.addFour(v) ? text.length() : NONE;
    }

    public boolean end(int n) {
        return text.cut(n);
    }

    public int moor() {
        int fault = land.faultOf(text);
        if (fault == NONE) {
            land.learn(text);
            party.begin(0, 0);
            party.washTracks();
            prints.forget();
            past.forget();
            Arrays.fill(keptKind, NONE);
        }
        text.empty();
        return fault == NONE ? land.size() : -1 - fault;
    }

    public int fee() {
        int fault = draft.learn(text);
        text.empty();
        if (fault != NONE) {
            return -1 - fault;
        }
        pay.takeFrom(draft);
        return 0;
    }

    public int cell(int c) {
        return land.kindOf(c);
    }

    public int put(int c, int what) {
        if (!land.has(c) || what < FIRM || what > HOME || c == party.where) {
            return NONE;
        }
        int before = land.kindOf(c);
        land.become(c, what);
        past.forget();
        return before;
    }

    public boolean go(int c, int heading) {
        if (land.kindOf(c) != FIRM || heading < 0 || heading >= HEADINGS) {
            return false;
        }
        party.begin(c, heading);
        past.forget();
        return true;
    }

    public boolean weights(int left, int on) {
        if (left < 0 || left > TENTHS || on < 0 || on > TENTHS - left) {
            return false;
        }
        weight[0] = left;
        weight[1] = on;
        weight[2] = TENTHS - left - on;
        return true;
    }

    public int set(int what, int v) {
        int before = NONE;
        if (what == 0 && v >= 0 && v <= LOUDEST_VOICE) {
            before = party.voice;
            party.voice = v;
        } else if (what == 1 && v >= 0 && v <= TENTHS) {
            before = heard;
            heard = v;
        }
        return before;
    }

    public int sheet(int kind, int n, int f, int step) {
        if (kind < 0 || kind > 3 || n > CELLS) {
            return NONE;
        }
        boolean missing = kind == 3;
        if (!missing && n < 0) {
            return CANNOT;
        }
        past.forget();
        // bytes, shorts and ints of one number have the same lowest 2 bits, so the kind does not matter further
        int uneven = land.spreadOut(missing ? 0 : n, f, step, party.where);
        return missing ? LACKS : uneven;
    }

    // ---- steps

    public int step(int turn) {
        if (!isTurn(turn)) {
            return NONE;
        }
        if (isOver()) {
            return CANNOT;
        }
        past.remember(party);
        party.tread(land, turn);
        return party.where;
    }

    public int alone() {
        if (isOver()) {
            return CANNOT;
        }
        past.remember(party);
        int turn = party.turnByWeights(weight);
        party.tread(land, turn);
        told.begin();
        told.add(turn);
        return party.where;
    }

    public int ask(int turn) {
        if (!isTurn(turn)) {
            return NONE;
        }
        if (isOver()) {
            return CANNOT;
        }
        if (party.voice < 1) {
            return LACKS;
        }
        past.remember(party);
        party.voice--;
        party.asks++;
        boolean isHeard = party.drawTenths() < heard;
        int turned = isHeard ? turn : party.turnByWeights(weight);
        party.tread(land, turned);
        told.begin();
        told.add(isHeard ? 1 : 0);
        told.add(turned);
        return party.where;
    }

    public int undo() {
        return past.recall(party) ? past.size : NONE;
    }

    public int look() {
        int fault = walkFault();
        int stance = party.stance();
        if (fault == NONE) {
            int done = 0;
            for (int p = 0; p < text.length() && !land.endsAt(cellOf(stance)); p++) {
                stance = land.after(stance, turnOf(text.at(p)));
                done++;
            }
            told.begin();
            told.add(done);
            told.add(fate(cellOf(stance)));
        }
        text.empty();
        return fault == NONE ? cellOf(stance) : -1 - fault;
    }

    public int way() {
        land.measure();
        int stance = party.stance();
        int far = land.stepsHome(stance);
        if (far == NONE) {
            return CANNOT;
        }
        told.begin();
        for (int left = far; left > 0 && far - left < MOST_OF_A_WAY; left--) {
            int turn = land.turnTowards(stance, left - 1);
            told.add(turn);
            stance = land.after(stance, turn);
        }
        return far;
    }

    public int reach() {
        spread.from(land, party.stance(), STANCES, ALL_TURNS);
        return tellCells(spread.cells());
    }

    // ---- chances (of the next n STEPS, 0 .. 8; HOME or SUNK it stays so)

    public int never(int n) {
        if (!isLength(n, MOST_STEPS)) {
            return NONE;
        }
        aim.want(0, 0, 1, 0);
        guide.lead(aim, n, 0, heard, party.stance());
        told.begin();
        told.addFraction(guide.luckOf(0), hundreds(n));
        told.addFraction(guide.payOf(0), hundreds(n));
        return 0;
    }

    public int best(int n) {
        if (!isLength(n, MOST_STEPS)) {
            return NONE;
        }
        told.begin();
        told.addFraction(bestChance(n, heard), hundreds(n));
        return 0;
    }

    public int fewest(int n, int p) {
        if (!isLength(n, MOST_STEPS) || p < 0 || p > HUNDRED) {
            return NONE;
        }
        aim.want(0, 1, 0, 0);
        guide.lead(aim, n, LOUDEST_VOICE, heard, party.stance());
        for (int calls = 0; calls <= LOUDEST_VOICE; calls++) {
            if (guide.payOf(calls) * HUNDRED >= p * hundreds(n)) {
                return calls;
            }
        }
        return CANNOT;
    }

    public int should(int n) {
        if (n < 1 || n > MOST_STEPS) {
            return NONE;
        }
        if (isOver()) {
            return CANNOT;
        }
        bestChance(n, heard);
        return guide.choice;
    }

    public int safest(int n) {
        if (!isLength(n, MOST_STEPS)) {
            return NONE;
        }
        aim.want(1, 0, -1, 0);
        guide.lead(aim, n, party.voice, heard, party.stance());
        told.begin();
        told.addFraction(guide.payOf(party.voice), hundreds(n));
        return 0;
    }

    public int perils(int n) {
        if (!isLength(n, MOST_STEPS)) {
            return NONE;
        }
        if (isOver()) {
            return tellCells(0L);
        }
        spread.from(land, party.stance(), n, turnsWithWeight());
        return tellCells(spread.cells() & land.cellsThatAre(BOG));
    }

    public int behind(int c, int n) {
        if (!land.has(c) || !isLength(n, MOST_STEPS)) {
            return NONE;
        }
        told.begin();
        aim.want(0, 0, 0, 0);
        aim.spot = c;
        guide.lead(aim, n, 0, heard, party.stance());
        told.addFraction(guide.payOf(0), hundreds(n));
        aim.want(0, 0, 0, 1);
        guide.lead(aim, n, 0, heard, party.stance());
        told.addFraction(guide.payOf(0), hundreds(n));
        return 0;
    }

    public int loud(int n, int p) {
        if (!isLength(n, MOST_STEPS) || p < 0 || p > HUNDRED) {
            return NONE;
        }
        for (int tenths = 0; tenths <= TENTHS; tenths++) {
            if (bestChance(n, tenths) * HUNDRED >= p * hundreds(n)) {
                return tenths;
            }
        }
        return CANNOT;
    }

    // ---- fees (FEE is paid behind the last of n STEPS; those it did not need, HOME or SUNK, are not counted)

    public int owed() {
        return pay.endsWith(land.kindOf(party.where), party.where) + pay.steps * party.steps + pay.asks * party.asks;
    }

    public int greed(int n) {
        if (!isLength(n, MOST_PAID_STEPS)) {
            return NONE;
        }
        long chance = greedyChance(pay, n);
        told.begin();
        told.addFraction(guide.payOf(party.voice), hundreds(n));
        told.addFraction(chance, hundreds(n));
        return 0;
    }

    public int honest(int n) {
        if (!isLength(n, MOST_PAID_STEPS)) {
            return NONE;
        }
        long less = bestChance(n, heard) - greedyChance(pay, n);
        told.begin();
        told.addFraction(less, hundreds(n));
        return less == 0 ? 1 : 0;
    }

    public boolean shelf(int i) {
        if (!isPlace(i)) {
            return false;
        }
        laid[i].takeFrom(pay);
        isLaid[i] = true;
        return true;
    }

    public int fairest(int n) {
        if (!isLength(n, MOST_PAID_STEPS)) {
            return NONE;
        }
        if (!isLaid[0] && !isLaid[1] && !isLaid[2]) {
            return CANNOT;
        }
        int fairest = NONE;
        long greatest = -1;
        told.begin();
        for (int i = 0; i < PLACES; i++) {
            if (isLaid[i]) {
                long chance = greedyChance(laid[i], n);
                told.addFraction(chance, hundreds(n));
                if (chance > greatest) {
                    greatest = chance;
                    fairest = i;
                }
            }
        }
        return fairest;
    }

    // ---- tracks

    public int track(int c) {
        return land.has(c) ? party.trackFrom(c) : NONE;
    }

    public int rain() {
        return party.washTracks();
    }

    public int follow(int c) {
        if (!land.has(c)) {
            return NONE;
        }
        trail.runFrom(c);
        told.begin();
        told.add(trail.steps);
        told.add(trail.isRound ? 3 : fate(trail.last));
        return trail.last;
    }

    public int warned() {
        land.measure();
        int first = CANNOT;
        int many = 0;
        for (int c = 0; c < land.size(); c++) {
            if (party.trackFrom(c) != NONE && trail.misleads(c) && land.hasWayFrom(c)) {
                first = many == 0 ? c : first;
                many++;
            }
        }
        if (many > 0) {
            told.begin();
            told.add(many);
        }
        return first;
    }

    // ---- calls of two sounds

    /**
     * Taking each word that is far enough from those taken gives the least row there is; that it is also as long as
     * any holds for all words of up to 5 sounds (the tests search through them all).
     */
    public int codes(int n, int d) {
        if (n < 1 || n > MOST_SOUNDS || d < 1 || d > n) {
            return NONE;
        }
        int taken = 0;
        int many = 0;
        told.begin();
        for (int word = 0; word < 1 << n; word++) {
            if (isFarFromAll(word, taken, d)) {
                taken |= 1 << word;
                many++;
                if (many <= MOST_OF_A_ROW) {
                    told.add(word);
                }
            }
        }
        return many;
    }

    public int meant(int n, int word, int lost, int list) {
        if (n < 1 || n > MOST_SOUNDS) {
            return NONE;
        }
        int words = 1 << n;
        // all 32 bits of a list are words of 5 sounds
        boolean isBeyond = n < MOST_SOUNDS && list >>> words != 0;
        if (word < 0 || word >= words || lost < 0 || lost >= words || isBeyond) {
            return NONE;
        }
        int alike = 0;
        for (int w = 0; w < words; w++) {
            if (((w ^ word) & ~lost) == 0) {
                alike |= 1 << w;
            }
        }
        return alike & list;
    }

    // ---- prints at dawn

    public int print(int c, int heading) {
        return prints.tell(c, heading) ? prints.size : NONE;
    }

    public int wipe() {
        return prints.forget();
    }

    public long rows() {
        if (prints.size == 0) {
            return CANNOT;
        }
        prints.trace(false);
        told.begin();
        prints.tellLeast(told);
        return prints.manyRows();
    }

    public int lies() {
        if (prints.size == 0) {
            return NONE;
        }
        prints.trace(true);
        int fewest = prints.fewestFalse();
        if (fewest == NONE) {
            return CANNOT;
        }
        told.begin();
        prints.tellLeast(told);
        return fewest;
    }

    // ---- hired

    public int worth(int i, int k, int v) {
        return market.isOne(i) && market.isOne(k) && v >= 0 && v <= MOST_WORTH ? market.value(i, k, v) : NONE;
    }

    public int hire(int n) {
        if (n < 1 || n > GUIDES) {
            return NONE;
        }
        int most = market.most(n, NONE);
        told.begin();
        market.tellGuides(told);
        return most;
    }

    public int hoarse(int i, int n) {
        if (n < 1 || n > GUIDES || i < 0 || i >= n) {
            return NONE;
        }
        return market.most(n, NONE) - market.most(n, i);
    }

    // ---- kept

    public int seed(int v) {
        int before = party.random;
        party.random = v;
        return before;
    }

    public boolean keep(int i) {
        if (!isPlace(i)) {
            return false;
        }
        kept[i].takeFrom(party);
        keptKind[i] = land.kindOf(party.where);
        return true;
    }

    public boolean again(int i) {
        if (!isPlace(i) || keptKind[i] == NONE || land.kindOf(kept[i].where) != keptKind[i]) {
            return false;
        }
        party.takeFrom(kept[i]);
        past.forget();
        return true;
    }

    public int count(int what) {
        switch (what) {
            case 0: return land.size();
            case 1: return land.wide;
            case 2: return party.where;
            case 3: return party.heading;
            case 4: return fate(party.where);
            case 5: return party.voice;
            case 6: return party.steps;
            case 7: return party.asks;
            case 8: return past.size;
            case 9: return prints.size;
            case 10: return told.size;
            case 11: return text.length();
            default: return NONE;
        }
    }

    public long row(int i) throws NoSuchElementException {
        if (i < 0 || i >= told.size) {
            throw new NoSuchElementException();
        }
        return told.at(i);
    }

    // ---- helpers of the calls

    private static boolean isTurn(int turn) {
        return turn >= 0 && turn < TURNS;
    }

    private static boolean isPlace(int i) {
        return i >= 0 && i < PLACES;
    }

    private static boolean isLength(int n, int most) {
        return n >= 0 && n <= most;
    }

    private static int cellOf(int stance) {
        return stance >> 2;
    }

    private static long hundreds(int n) {
        return n >= 0 && n < HUNDREDS.length ? HUNDREDS[n] : 1L;
    }

    private static int tenthsOf(int[] weight, int turn) {
        return turn >= 0 && turn < weight.length ? weight[turn] : 0;
    }

    private static int turnOf(int sign) {
        switch (sign) {
            case 'l': return 0;
            case 'o': return 1;
            case 'r': return 2;
            default: return NONE;
        }
    }

    private static boolean isFarFromAll(int word, int taken, int d) {
        for (int other = 0; other < word; other++) {
            if ((taken >>> other & 1) != 0 && Integer.bitCount(word ^ other) < d) {
                return false;
            }
        }
        return true;
    }

    private boolean isOver() {
        return land.endsAt(party.where);
    }

    /** 0, 1 on a BOG, 2 on HOME. */
    private int fate(int c) {
        int kind = land.kindOf(c);
        return kind == BOG ? 1 : kind == HOME ? 2 : 0;
    }

    private int walkFault() {
        for (int p = 0; p < text.length(); p++) {
            if (p == MOST_OF_A_WALK || turnOf(text.at(p)) == NONE) {
                return p;
            }
        }
        return NONE;
    }

    private int tellCells(long cells) {
        long half = (1L << HALF_OF_CELLS) - 1;
        told.begin();
        told.add(cells & half);
        told.add(cells >>> HALF_OF_CELLS);
        return Long.bitCount(cells);
    }

    private int turnsWithWeight() {
        int turns = 0;
        for (int t = 0; t < TURNS; t++) {
            turns |= tenthsOf(weight, t) > 0 ? 1 << t : 0;
        }
        return turns;
    }

    /** In so many of hundreds(n). */
    private long bestChance(int n, int tenthsHeard) {
        aim.want(0, 1, 0, 0);
        guide.lead(aim, n, party.voice, tenthsHeard, party.stance());
        return guide.payOf(party.voice);
    }

    /** The chance to be HOME, in so many of hundreds(n), led for a fee. */
    private long greedyChance(Fee fee, int n) {
        guide.lead(fee, n, party.voice, heard, party.stance());
        return guide.luckOf(party.voice);
    }

    /** THE TEXT. */
    private static final class Signs {
        private final int[] signs = new int[MOST_SIGNS];
        private int size;

        int length() {
            return size;
        }

        /** The sign at a place, NONE at the end and beyond. */
        int at(int p) {
            return p >= 0 && p < size && p < MOST_SIGNS ? signs[p] : NONE;
        }

        boolean addFour(int v) {
            if (size + 4 > MOST_SIGNS) {
                return false;
            }
            for (int shift = 24; shift >= 0; shift -= 8) {
                signs[size] = v >>> shift & 255;
                size++;
            }
            return true;
        }

        boolean cut(int n) {
            if (n < 0 || n > size) {
                return false;
            }
            size = n;
            return true;
        }

        void empty() {
            size = 0;
        }
    }

    /** The ROW. */
    private static final class Numbers {
        private final long[] numbers = new long[MOST_OF_A_ROW];
        private int size;

        void begin() {
            size = 0;
        }

        void add(long number) {
            if (size < MOST_OF_A_ROW) {
                numbers[size] = number;
                size++;
            }
        }

        void addFraction(long upper, long lower) {
            long common = commonDivisor(upper < 0 ? -upper : upper, lower);
            if (common > 0) {
                add(upper / common);
                add(lower / common);
            }
        }

        long at(int i) {
            return i >= 0 && i < size && i < MOST_OF_A_ROW ? numbers[i] : 0L;
        }

        private static long commonDivisor(long a, long b) {
            long greater = a;
            long rest = b;
            // two longs take fewer than 100 rounds
            for (int round = 0; rest != 0 && round < 200; round++) {
                long next = greater % rest;
                greater = rest;
                rest = next;
            }
            return greater;
        }
    }

    /** THE MOOR. A stance is a CELL times 4 and a HEADING. */
    private static final class Land {
        private int wide = 1;
        private int high = 1;
        private final int[] kinds = new int[CELLS];
        private final int[] ahead = new int[STANCES];
        private final int[] homeward = new int[STANCES];
        private boolean isMeasured;

        Land() {
            for (int stance = 0; stance < STANCES; stance++) {
                ahead[stance] = stance;
            }
        }

        int size() {
            return wide * high;
        }

        boolean has(int c) {
            return c >= 0 && c < wide * high && c < CELLS;
        }

        int kindOf(int c) {
            return c >= 0 && c < wide * high && c < CELLS ? kinds[c] : NONE;
        }

        boolean endsAt(int c) {
            int kind = kindOf(c);
            return kind == BOG || kind == HOME;
        }

        long cellsThatAre(int kind) {
            long cells = 0;
            for (int c = 0; c < wide * high; c++) {
                cells |= kindOf(c) == kind ? 1L << c : 0L;
            }
            return cells;
        }

        void become(int c, int kind) {
            if (c >= 0 && c < CELLS) {
                kinds[c] = kind;
                survey();
            }
        }

        /** A sheet of n entries f, f + step, ..; the spared CELL stays: how many CELLS are not firm. */
        int spreadOut(int n, int f, int step, int spared) {
            int uneven = 0;
            int entry = f;
            for (int c = 0; c < wide * high && c < CELLS; c++) {
                if (c != spared) {
                    kinds[c] = c < n ? entry & 3 : FIRM;
                }
                entry += step;
                uneven += kinds[c] == FIRM ? 0 : 1;
            }
            survey();
            return uneven;
        }

        /** The place in the text that can't stand, NONE if it tells a moor. */
        int faultOf(Signs text) {
            int width = SIDE;
            int row = 0;
            int column = 0;
            for (int p = 0; p < text.length(); p++) {
                int sign = text.at(p);
                if (kindTold(sign) != NONE) {
                    if (row == SIDE || column == width) {
                        return p;
                    }
                    column++;
                } else if (sign == '/' && isWhole(row, column, width)) {
                    width = column;
                    row++;
                    column = 0;
                } else {
                    return p;
                }
            }
            return isWhole(row, column, width) ? NONE : text.length();
        }

        private static boolean isWhole(int row, int column, int width) {
            return row == 0 ? column > 0 : column == width;
        }

        private static int kindTold(int sign) {
            switch (sign) {
                case '.': return FIRM;
                case 'o': return BOG;
                case '#': return STONE;
                case 'H': return HOME;
                default: return NONE;
            }
        }

        /** Takes a text without fault. */
        void learn(Signs text) {
            int cells = 0;
            high = 1;
            wide = 0;
            for (int p = 0; p < text.length(); p++) {
                int kind = kindTold(text.at(p));
                if (kind == NONE) {
                    high++;
                    wide = 0;
                } else if (cells < CELLS) {
                    kinds[cells] = kind;
                    cells++;
                    wide++;
                }
            }
            survey();
        }

        /** The stance behind a STEP with a TURN. */
        int after(int stance, int turn) {
            int turned = (stance & ~3) | (stance + turn + 3 & 3);
            return turned >= 0 && turned < STANCES ? ahead[turned] : 0;
        }

        private void survey() {
            isMeasured = false;
            for (int row = 0; row < high; row++) {
                for (int column = 0; column < wide; column++) {
                    for (int heading = 0; heading < HEADINGS; heading++) {
                        int stance = (row * wide + column) * HEADINGS + heading;
                        if (stance < STANCES) {
                            ahead[stance] = across(row, column, heading) * HEADINGS + heading;
                        }
                    }
                }
            }
        }

        /** The CELL where it is, if it goes one CELL on. */
        private int across(int row, int column, int heading) {
            int toRow = row + (heading == 2 ? 1 : heading == 0 ? -1 : 0);
            int toColumn = column + (heading == 1 ? 1 : heading == 3 ? -1 : 0);
            boolean isInside = toRow >= 0 && toRow < high && toColumn >= 0 && toColumn < wide;
            int to = toRow * wide + toColumn;
            return isInside && kindOf(to) != STONE ? to : row * wide + column;
        }

        /** Comes ahead of what asks for STEPS to HOME; few calls do, so it is not done whenever a CELL changes. */
        void measure() {
            boolean isGrowing = !isMeasured;
            for (int stance = 0; isGrowing && stance < STANCES; stance++) {
                homeward[stance] = kindOf(cellOf(stance)) == HOME ? 0 : NONE;
            }
            for (int far = 1; isGrowing && far <= STANCES; far++) {
                isGrowing = widen(far);
            }
            isMeasured = true;
        }

        /** The fewest STEPS to HOME as last measured, NONE if there is no way. */
        int stepsHome(int stance) {
            return stance >= 0 && stance < STANCES ? homeward[stance] : NONE;
        }

        private boolean widen(int far) {
            boolean isGrowing = false;
            for (int stance = 0; stance < STANCES && cellOf(stance) < wide * high; stance++) {
                if (homeward[stance] == NONE && !endsAt(cellOf(stance)) && turnTowards(stance, far - 1) != NONE) {
                    homeward[stance] = far;
                    isGrowing = true;
                }
            }
            return isGrowing;
        }

        /** The least TURN behind which there are so many STEPS to HOME, or NONE. */
        int turnTowards(int stance, int left) {
            for (int turn = 0; turn < TURNS; turn++) {
                if (stepsHome(after(stance, turn)) == left) {
                    return turn;
                }
            }
            return NONE;
        }

        boolean hasWayFrom(int c) {
            for (int heading = 0; heading < HEADINGS; heading++) {
                if (stepsHome(c * HEADINGS + heading) != NONE) {
                    return true;
                }
            }
            return false;
        }
    }

    /** What of THE PARTY, its guide's VOICE and R can be undone and kept. */
    private static final class Party {
        private int where;
        private int heading;
        private int voice = LOUDEST_VOICE;
        private int random = 1;
        private int steps;
        private int asks;
        private final int[] tracks = new int[CELLS];

        Party() {
            Arrays.fill(tracks, NONE);
        }

        void takeFrom(Party other) {
            where = other.where;
            heading = other.heading;
            voice = other.voice;
            random = other.random;
            steps = other.steps;
            asks = other.asks;
            System.arraycopy(other.tracks, 0, tracks, 0, CELLS);
        }

        int stance() {
            return where * HEADINGS + heading;
        }

        void begin(int c, int towards) {
            where = c;
            heading = towards;
            steps = 0;
            asks = 0;
        }

        int drawTenths() {
            random = random * 1103515245 + 12345;
            return (random >>> 16) % TENTHS;
        }

        int turnByWeights(int[] weight) {
            int drawn = drawTenths();
            int left = tenthsOf(weight, 0);
            return drawn < left ? 0 : drawn < left + tenthsOf(weight, 1) ? 1 : 2;
        }

        void tread(Land land, int turn) {
            int next = land.after(stance(), turn);
            int there = cellOf(next);
            if (there != where && where >= 0 && where < CELLS) {
                tracks[where] = there;
            }
            where = there;
            heading = next & 3;
            steps++;
        }

        int trackFrom(int c) {
            return c >= 0 && c < CELLS ? tracks[c] : NONE;
        }

        int washTracks() {
            int many = 0;
            for (int c = 0; c < CELLS; c++) {
                many += tracks[c] == NONE ? 0 : 1;
                tracks[c] = NONE;
            }
            return many;
        }
    }

    /** How it was ahead of the latest STEPS, in a ring. */
    private static final class Past {
        private final Party[] ring = new Party[MOST_UNDONE];
        private int next;
        private int size;

        Past() {
            for (int i = 0; i < MOST_UNDONE; i++) {
                ring[i] = new Party();
            }
        }

        void remember(Party party) {
            if (next >= 0 && next < MOST_UNDONE) {
                ring[next].takeFrom(party);
            }
            next = next + 1 >= MOST_UNDONE ? 0 : next + 1;
            size = size < MOST_UNDONE ? size + 1 : size;
        }

        boolean recall(Party party) {
            if (size == 0) {
                return false;
            }
            next = next == 0 ? MOST_UNDONE - 1 : next - 1;
            if (next >= 0 && next < MOST_UNDONE) {
                party.takeFrom(ring[next]);
            }
            size--;
            return true;
        }

        void forget() {
            size = 0;
        }
    }

    /** A sum of a number and of so many times each letter; for behind() also 1 on a spot. */
    private static final class Fee {
        private static final int AT_THING = 0;
        private static final int AT_DIGIT = 1;
        private static final int AT_NUMBER = 2;
        private static final int AT_TIMES = 3;
        private static final int AT_LETTER = 4;

        private int plain;
        private int home;
        private int sunk;
        private int steps;
        private int asks;
        private int spot = NONE;

        void takeFrom(Fee other) {
            plain = other.plain;
            home = other.home;
            sunk = other.sunk;
            steps = other.steps;
            asks = other.asks;
            spot = other.spot;
        }

        void want(int plainly, int ifHome, int ifSunk, int eachStep) {
            plain = plainly;
            home = ifHome;
            sunk = ifSunk;
            steps = eachStep;
            asks = 0;
            spot = NONE;
        }

        /** What is paid at the end, without what STEPS and askings bring. */
        int endsWith(int kind, int c) {
            return plain + (kind == HOME ? home : 0) + (kind == BOG ? sunk : 0) + (c == spot ? 1 : 0);
        }

        /** The place in the text that can't stand, NONE if it is a fee. */
        int learn(Signs text) {
            want(0, 0, 0, 0);
            int stage = text.length() == 0 ? AT_LETTER : AT_THING;
            int sense = 1;
            int number = 0;
            for (int p = 0; p <= MOST_OF_A_FEE; p++) {
                int sign = text.at(p);
                boolean isEnd = sign == NONE || sign == '+' || sign == '-';
                if (p == MOST_OF_A_FEE && sign != NONE) {
                    return p;
                } else if (sign >= '0' && sign <= '9' && stage <= AT_DIGIT) {
                    number = number * 10 + sign - '0';
                    stage++;
                } else if (sign == '*' && (stage == AT_DIGIT || stage == AT_NUMBER)) {
                    stage = AT_TIMES;
                } else if (isLetter(sign) && (stage == AT_THING || stage == AT_TIMES)) {
                    addTo(sign, sense * (stage == AT_THING ? 1 : number));
                    number = 0;
                    stage = AT_LETTER;
                } else if (isEnd && stage != AT_THING && stage != AT_TIMES) {
                    plain += sense * number;
                    if (sign == NONE) {
                        return NONE;
                    }
                    sense = sign == '-' ? -1 : 1;
                    number = 0;
                    stage = AT_THING;
                } else {
                    return p;
                }
            }
            return MOST_OF_A_FEE;
        }

        private static boolean isLetter(int sign) {
            return sign == 'h' || sign == 'x' || sign == 's' || sign == 'a';
        }

        private void addTo(int letter, int many) {
            home += letter == 'h' ? many : 0;
            sunk += letter == 'x' ? many : 0;
            steps += letter == 's' ? many : 0;
            asks += letter == 'a' ? many : 0;
        }
    }

    /** The stances that can be come to, those of fewer STEPS first. */
    private static final class Spread {
        private final int[] order = new int[STANCES];
        private final int[] depth = new int[STANCES];
        private int size;

        void from(Land land, int start, int most, int turns) {
            Arrays.fill(depth, NONE);
            size = 0;
            find(start, 0);
            for (int i = 0; i < size && i < STANCES; i++) {
                int stance = order[i];
                int far = depthOf(stance);
                if (far < most && !land.endsAt(cellOf(stance))) {
                    for (int turn = 0; turn < TURNS; turn++) {
                        if ((turns >>> turn & 1) != 0) {
                            find(land.after(stance, turn), far + 1);
                        }
                    }
                }
            }
        }

        private void find(int stance, int far) {
            if (stance >= 0 && stance < STANCES && depth[stance] == NONE && size < STANCES) {
                depth[stance] = far;
                order[size] = stance;
                size++;
            }
        }

        private int depthOf(int stance) {
            return stance >= 0 && stance < STANCES ? depth[stance] : STANCES;
        }

        /** How many stances take so many STEPS or fewer. */
        int within(int far) {
            int many = 0;
            for (int i = 0; i < size && i < STANCES; i++) {
                many += depthOf(order[i]) <= far ? 1 : 0;
            }
            return many;
        }

        int stanceAt(int i) {
            return i >= 0 && i < STANCES ? order[i] : 0;
        }

        long cells() {
            long cells = 0;
            for (int i = 0; i < size && i < STANCES; i++) {
                cells |= 1L << cellOf(order[i]);
            }
            return cells;
        }
    }

    /**
     * Leads so as to have the most of a fee on the mean, of as much the most of the chance to be HOME. What it finds
     * is told in hundreds(STEPS to go); a FEE is a sum, so what STEPS and askings bring can be added STEP by STEP.
     */
    private static final class Guide {
        private final Land land;
        private final int[] weight;
        private final Spread spread = new Spread();
        private long[] pays = new long[LAYER];
        private long[] paysBehind = new long[LAYER];
        private long[] lucks = new long[LAYER];
        private long[] lucksBehind = new long[LAYER];
        private Fee fee = new Fee();
        private int heard;
        private int length;
        private int start;
        private int choice = BY_ITSELF;

        Guide(Land ground, int[] weights) {
            land = ground;
            weight = weights;
        }

        void lead(Fee led, int n, int voice, int tenthsHeard, int stance) {
            fee = led;
            length = n;
            heard = tenthsHeard;
            start = stance;
            spread.from(land, stance, n, ALL_TURNS);
            for (int left = 0; left <= n; left++) {
                swapLayers();
                // with as many STEPS to go more calls than that are of no use
                int calls = Math.min(voice, left);
                int many = spread.within(n - left);
                for (int i = 0; i < many; i++) {
                    int stanceThere = spread.stanceAt(i);
                    for (int v = 0; v <= calls; v++) {
                        decide(stanceThere, v, left);
                    }
                }
            }
        }

        private void swapLayers() {
            long[] layer = pays;
            pays = paysBehind;
            paysBehind = layer;
            layer = lucks;
            lucks = lucksBehind;
            lucksBehind = layer;
        }

        /** The last choice that lead() makes is that of its start with all its VOICE. */
        private void decide(int stance, int voice, int left) {
            int c = cellOf(stance);
            long whole = hundreds(left);
            if (left == 0 || land.endsAt(c)) {
                int kind = land.kindOf(c);
                lay(stance, voice, fee.endsWith(kind, c) * whole, kind == HOME ? whole : 0L);
                return;
            }
            int spared = Math.min(voice, left - 1);
            long most = TENTHS * byItself(paysBehind, stance, spared) + fee.steps * whole;
            long luckiest = TENTHS * byItself(lucksBehind, stance, spared);
            choice = BY_ITSELF;
            if (voice > 0) {
                long unheardPay = (TENTHS - heard) * byItself(paysBehind, stance, voice - 1);
                long unheardLuck = (TENTHS - heard) * byItself(lucksBehind, stance, voice - 1);
                long costs = (fee.steps + fee.asks) * whole;
                for (int turn = 0; turn < TURNS; turn++) {
                    int next = land.after(stance, turn);
                    long paid = unheardPay + TENTHS * heard * laidAt(paysBehind, next, voice - 1) + costs;
                    long luck = unheardLuck + TENTHS * heard * laidAt(lucksBehind, next, voice - 1);
                    if (paid > most || paid == most && luck > luckiest) {
                        most = paid;
                        luckiest = luck;
                        choice = turn;
                    }
                }
            }
            lay(stance, voice, most, luckiest);
        }

        private void lay(int stance, int voice, long paid, long luck) {
            int i = voice * STANCES + stance;
            if (i >= 0 && i < LAYER) {
                pays[i] = paid;
                lucks[i] = luck;
            }
        }

        private static long laidAt(long[] layer, int stance, int voice) {
            int i = voice * STANCES + stance;
            return i >= 0 && i < layer.length ? layer[i] : 0L;
        }

        private long byItself(long[] layer, int stance, int voice) {
            long sum = 0;
            for (int turn = 0; turn < TURNS; turn++) {
                sum += tenthsOf(weight, turn) * laidAt(layer, land.after(stance, turn), voice);
            }
            return sum;
        }

        long payOf(int voice) {
            return laidAt(pays, start, Math.min(voice, length));
        }

        long luckOf(int voice) {
            return laidAt(lucks, start, Math.min(voice, length));
        }
    }

    /** One follows TRACKS. */
    private static final class Trail {
        private final Land land;
        private final Party party;
        private int last;
        private int steps;
        private boolean isRound;

        Trail(Land ground, Party ahead) {
            land = ground;
            party = ahead;
        }

        void runFrom(int c) {
            last = c;
            steps = 0;
            isRound = false;
            long seen = 1L << c;
            for (int i = 0; i <= CELLS && !isRound && party.trackFrom(last) != NONE; i++) {
                last = party.trackFrom(last);
                steps++;
                isRound = (seen >>> last & 1L) != 0;
                seen |= 1L << last;
            }
        }

        boolean misleads(int c) {
            runFrom(c);
            return isRound || land.kindOf(last) == BOG;
        }
    }

    /** Prints, and how they can have come about. */
    private static final class Prints {
        private final Land land;
        private final int[] weight;
        private final int[] cells = new int[MOST_PRINTS];
        private final long[] many = new long[MOST_PRINTS * HEADINGS];
        private final int[] falsest = new int[MOST_PRINTS * HEADINGS];
        private int heading;
        private int size;
        private boolean isJudged;

        Prints(Land ground, int[] weights) {
            land = ground;
            weight = weights;
        }

        boolean tell(int c, int towards) {
            boolean isNext = size == 0 ? towards >= 0 && towards < HEADINGS : isStepOn(cellAt(size - 1), c);
            if (!land.has(c) || !isNext || size >= MOST_PRINTS) {
                return false;
            }
            heading = size == 0 ? towards : heading;
            cells[size] = c;
            size++;
            return true;
        }

        private boolean isStepOn(int from, int to) {
            int wide = land.wide;
            if (wide < 1) {
                return false;
            }
            int across = from % wide - to % wide;
            int down = from / wide - to / wide;
            return across * across + down * down <= 1;
        }

        private int cellAt(int i) {
            return i >= 0 && i < size && i < MOST_PRINTS ? cells[i] : NONE;
        }

        int forget() {
            int before = size;
            size = 0;
            return before;
        }

        /** From the last print back: in how many rows of TURNS it can go on, and with how few false calls. */
        void trace(boolean judged) {
            isJudged = judged;
            land.measure();
            for (int i = size - 1; i >= 0 && i < MOST_PRINTS; i--) {
                for (int h = 0; h < HEADINGS; h++) {
                    many[i * HEADINGS + h] = i == size - 1 ? 1 : 0;
                    falsest[i * HEADINGS + h] = i == size - 1 ? 0 : NONE;
                    for (int turn = 0; turn < TURNS && i < size - 1; turn++) {
                        traceOn(i, h, turn);
                    }
                }
            }
        }

        private void traceOn(int i, int h, int turn) {
            int here = i * HEADINGS + h;
            int there = placeBehind(i, h, turn);
            if (here < many.length && there >= 0 && there < many.length) {
                many[here] += many[there];
                int calls = falseCalls(i, h, turn);
                if (calls != NONE && (falsest[here] == NONE || calls < falsest[here])) {
                    falsest[here] = calls;
                }
            }
        }

        /** Where in the rows it is by a TURN behind print i; NONE if the next print can't come of it. */
        private int placeBehind(int i, int h, int turn) {
            int c = cellAt(i);
            int next = land.after(c * HEADINGS + h, turn);
            boolean isNext = !land.endsAt(c) && cellOf(next) == cellAt(i + 1);
            return isNext ? (i + 1) * HEADINGS + (next & 3) : NONE;
        }

        /** The fewest false calls from print i on that begin by a TURN, NONE if there is no such row. */
        private int falseCalls(int i, int h, int turn) {
            int there = placeBehind(i, h, turn);
            if (there < 0 || there >= falsest.length || falsest[there] == NONE) {
                return NONE;
            }
            return falsest[there] + (isJudged && isFalse(cellAt(i) * HEADINGS + h, turn) ? 1 : 0);
        }

        private boolean isFalse(int stance, int turn) {
            int far = land.stepsHome(stance);
            boolean isCalled = tenthsOf(weight, turn) == 0;
            return isCalled && (far == NONE || land.stepsHome(land.after(stance, turn)) != far - 1);
        }

        long manyRows() {
            return heading >= 0 && heading < HEADINGS ? many[heading] : 0L;
        }

        int fewestFalse() {
            return heading >= 0 && heading < HEADINGS ? falsest[heading] : NONE;
        }

        /** The least row of those with the fewest false calls. */
        void tellLeast(Numbers told) {
            int h = heading;
            for (int i = 0; i < size - 1 && fewestFalse() != NONE; i++) {
                int turn = leastTurn(i, h);
                told.add(turn);
                h = h + turn + 3 & 3;
            }
        }

        private int leastTurn(int i, int h) {
            int here = i * HEADINGS + h;
            for (int turn = 0; turn < TURNS; turn++) {
                int calls = falseCalls(i, h, turn);
                if (calls != NONE && here >= 0 && here < falsest.length && calls == falsest[here]) {
                    return turn;
                }
            }
            return 0;
        }
    }

    /** What GUIDES are worth to PARTIES, and who is hired by whom. */
    private static final class Market {
        private final int[] worths = new int[GUIDES * GUIDES];
        private final int[] mosts = new int[1 << GUIDES];
        private int parties;
        private int mute = NONE;

        boolean isOne(int i) {
            return i >= 0 && i < GUIDES;
        }

        int value(int i, int k, int v) {
            int place = i * GUIDES + k;
            if (place < 0 || place >= worths.length) {
                return NONE;
            }
            int before = worths[place];
            worths[place] = v;
            return before;
        }

        /** With a mute GUIDE (NONE: none is): the most by each set of GUIDES hired already, all of them first. */
        int most(int n, int muted) {
            parties = n;
            mute = muted;
            int all = (1 << n) - 1;
            for (int hired = all; hired >= 0 && hired < mosts.length; hired--) {
                mosts[hired] = 0;
                for (int i = 0; i < n; i++) {
                    mosts[hired] = Math.max(mosts[hired], mostBy(i, hired));
                }
            }
            return mosts[0];
        }

        /** The most that the PARTIES without a GUIDE can have, if the first of them has GUIDE i; NONE: it is hired. */
        private int mostBy(int i, int hired) {
            int place = i * GUIDES + Integer.bitCount(hired);
            int then = hired | 1 << i;
            if (then == hired || place >= worths.length || then >= mosts.length) {
                return NONE;
            }
            return mosts[then] + (i == mute ? 0 : worths[place]);
        }

        void tellGuides(Numbers told) {
            int hired = 0;
            for (int k = 0; k < parties; k++) {
                int i = leastGuide(hired);
                told.add(i);
                hired |= 1 << i;
            }
        }

        private int leastGuide(int hired) {
            for (int i = 0; i < parties; i++) {
                if (hired >= 0 && hired < mosts.length && mostBy(i, hired) == mosts[hired]) {
                    return i;
                }
            }
            return 0;
        }
    }
}
