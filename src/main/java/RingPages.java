/**
 * Where a handset is: cells joined by weights, laws of telling where it is, paging by rounds,
 * chances in the long run as fractions, best areas and walks by draws. The words of the comments
 * are those of the document (../shared/DOC.md).
 */
public final class RingPages {
    public static final int BAD = -1, NO = -2, FULL = -3, NONE = -4;

    private static final String FIRST_TEXT =
            "n6;j0,1,2,1;j1,2,1,1;j2,3,3,1;j3,4,1,2;j4,5,1,1;j5,0,2,2;j1,4,1,1;s2,4;a3,1;a4,1;a5,1;p2,1,5,10;";

    private static final int FEWEST_CELLS = 2, MOST_CELLS = 6;
    private static final int MOST_LETTERS = 200, FIRST_LETTER = 32, LAST_LETTER = 126;
    private static final int MOST_NUMBERS = 4;
    private static final int MOST_WEIGHT = 4, MOST_STAY = 9, MOST_AREA = 5;
    private static final int MOST_ROUNDS = 4, MOST_VALUE = 9;
    private static final int MOST_CHANGES = 6;
    private static final int CROSSING = 0, MOVES = 1, TIME = 2, FAR = 3;
    private static final int MOST_SEED = 9999, MOST_WALK = 60;
    private static final int PERCENT = 100;
    /** Above every WIDE there is. */
    private static final int NO_WAY = 99;
    /** Far above the 203 ways to part six CELLS into AREAS. */
    private static final int MOST_PARTINGS = 1000;
    /** Euclid's steps for two longs stay below this. */
    private static final int MOST_DIVISIONS = 200;

    private final Text text;
    private final Past past;
    private final LongRun longRun;
    private final Whereabouts whereabouts;
    private final Rounds rounds;
    private final State walker;
    /** What is LAID; the drafts are read into and change places with these when a TEXT is LAID. */
    private Net net;
    private State state;
    private Net draftNet;
    private State draftState;

    public RingPages() {
        text = new Text();
        past = new Past();
        longRun = new LongRun();
        whereabouts = new Whereabouts();
        rounds = new Rounds();
        walker = new State();
        net = new Net();
        state = new State();
        draftNet = new Net();
        draftState = new State();
        for (int i = 0; i < FIRST_TEXT.length(); i++) {
            text.append(FIRST_TEXT.charAt(i));
        }
        layText();
        text.length = 0;
    }

    // ---- told

    public int write(int letter) {
        if (letter < FIRST_LETTER || letter > LAST_LETTER) {
            return BAD;
        }
        return text.append(letter) ? text.length : FULL;
    }

    public int wipe() {
        int was = text.length;
        text.length = 0;
        return was;
    }

    public int fault() {
        return text.readInto(draftNet, draftState);
    }

    public int lay() {
        return layText() ? net.cells : NO;
    }

    private boolean layText() {
        if (text.readInto(draftNet, draftState) != NONE || !draftNet.isWhole()) {
            return false;
        }
        Net oldNet = net;
        State oldState = state;
        net = draftNet;
        state = draftState;
        draftNet = oldNet;
        draftState = oldState;
        net.growTrees();
        past.held = 0;
        longRun.reckon(net, state);
        return true;
    }

    // ---- told anew

    public int set(int c, int what, int v) {
        if (!isCell(c) || what < 0 || what > 1 || v < 0 || v > (what == 0 ? MOST_STAY : MOST_AREA)) {
            return BAD;
        }
        int was = what == 0 ? state.stay[c] : state.area[c];
        if (was == v) {
            return NO;
        }
        past.keep(state);
        if (what == 0) {
            state.stay[c] = v;
            longRun.reckon(net, state);
        } else {
            state.area[c] = v;
        }
        state.register();
        return was;
    }

    public int law(int kind, int v) {
        if (!isLaw(kind, v)) {
            return BAD;
        }
        if (state.kind == kind && state.value == v) {
            return NO;
        }
        int was = 10 * state.kind + state.value;
        past.keep(state);
        state.kind = kind;
        state.value = v;
        state.register();
        return was;
    }

    public int give() {
        longRun.findBest(net);
        past.keep(state);
        int others = 0;
        for (int c = 0; c < net.cells; c++) {
            if (state.area[c] != longRun.best[c]) {
                others++;
            }
            state.area[c] = longRun.best[c];
        }
        state.register();
        return others;
    }

    public int undo() {
        if (!past.bringBack(state)) {
            return NO;
        }
        longRun.reckon(net, state);
        return past.held;
    }

    // ---- cells

    public int cell(int c, int what) {
        if (!isCell(c)) {
            return BAD;
        }
        switch (what) {
            case 0: return state.stay[c];
            case 1: return state.area[c];
            case 2: return state.stay[c] + net.out[c];
            case 3: return net.near[c];
            case 4: return sameArea(net.cells, state.area, c);
            default: return BAD;
        }
    }

    public int weight(int a, int b) {
        if (!isCell(a) || !isCell(b) || a == b) {
            return BAD;
        }
        return net.weight[a][b];
    }

    public int wide(int a, int b) {
        if (!isCell(a) || !isCell(b)) {
            return BAD;
        }
        return net.wide[a][b];
    }

    // ---- the handset

    public int tick(int c) {
        if (!isCell(c)) {
            return BAD;
        }
        if (!state.canGo(net, c)) {
            return NO;
        }
        past.keep(state);
        return state.go(net, c) ? 1 : 0;
    }

    public int page() {
        seek();
        int paged = 0;
        for (int k = 0; k < rounds.many; k++) {
            int asked = rounds.cellsOf(k);
            paged += Integer.bitCount(asked);
            if (holds(asked, state.cell)) {
                break;
            }
        }
        past.keep(state);
        state.paged += paged;
        state.register();
        return paged;
    }

    public int handset(int what) {
        switch (what) {
            case 0: return state.cell;
            case 1: return state.home;
            case 2: return state.moves;
            case 3: return state.ticks;
            case 4: return state.updates;
            case 5: return state.paged;
            case 6: return net.pageCost * state.paged + net.updateCost * state.updates;
            default: return BAD;
        }
    }

    public int where() {
        return whereabouts.find(net, state);
    }

    public int round(int k) {
        if (k < -1) {
            return BAD;
        }
        seek();
        if (k == -1) {
            return rounds.many;
        }
        return k < rounds.many ? rounds.cellsOf(k) : NONE;
    }

    private void seek() {
        rounds.lineUp(whereabouts.find(net, state), longRun.above);
        rounds.split(net.mostRounds, longRun.above);
    }

    // ---- in the long run

    public long chance(int c, int part) {
        if (!isCell(c) || !isPart(part)) {
            return BAD;
        }
        return lowest(longRun.above[c], longRun.below, part);
    }

    public long mean(int what, int part) {
        if (!isPart(part)) {
            return BAD;
        }
        switch (what) {
            case 0: return lowest(longRun.crosses(net, state.area), longRun.below, part);
            case 1: return lowest(longRun.movesOn(net), longRun.below, part);
            case 2: return rate(part);
            case 3: return lowest(longRun.expense(net, state.area), PERCENT * longRun.below, part);
            default: return BAD;
        }
    }

    private long rate(int part) {
        switch (state.kind) {
            case CROSSING: return lowest(longRun.crosses(net, state.area), longRun.below, part);
            case MOVES: return lowest(longRun.movesOn(net), state.value * longRun.below, part);
            case TIME: return lowest(1, state.value, part);
            default: return NONE;
        }
    }

    public int best(int c) {
        if (!isCell(c)) {
            return BAD;
        }
        longRun.findBest(net);
        return longRun.best[c];
    }

    public long least(int part) {
        if (!isPart(part)) {
            return BAD;
        }
        longRun.findBest(net);
        return lowest(longRun.leastExpense, PERCENT * longRun.below, part);
    }

    // ---- walks

    public int walk(int z, int n, int what) {
        if (z < 0 || z > MOST_SEED || n < 1 || n > MOST_WALK || what < 0 || what > 2) {
            return BAD;
        }
        walker.copyFrom(state);
        int updates = 0;
        int moves = 0;
        for (int k = 0; k < n; k++) {
            int next = walker.drawnCell(net, draw(z, k));
            if (next != walker.cell) {
                moves++;
            }
            if (walker.go(net, next)) {
                updates++;
            }
        }
        if (what == 0) {
            return walker.cell;
        }
        return what == 1 ? updates : moves;
    }

    public int count(int what) {
        switch (what) {
            case 0: return net.cells;
            case 1: return net.joins;
            case 2: return state.kind;
            case 3: return state.value;
            case 4: return net.mostRounds;
            case 5: return net.pageCost;
            case 6: return net.updateCost;
            case 7: return net.callChance;
            case 8: return past.held;
            case 9: return text.length;
            default: return BAD;
        }
    }

    // ---- small questions

    private boolean isCell(int c) {
        return c >= 0 && c < net.cells;
    }

    private static boolean isPart(int part) {
        return part == 0 || part == 1;
    }

    private static boolean isLaw(int kind, int v) {
        if (kind == CROSSING) {
            return v == 0;
        }
        return kind >= MOVES && kind <= FAR && v >= 1 && v <= MOST_VALUE;
    }

    private static boolean holds(int bits, int c) {
        return (bits >> c & 1) != 0;
    }

    private static int sameArea(int cells, int[] area, int c) {
        int alike = 0;
        for (int d = 0; d < cells; d++) {
            if (area[d] == area[c]) {
                alike++;
            }
        }
        return alike;
    }

    private static int draw(int z, int k) {
        long x = 7919L * z + 6151L * k + 1;
        return (int) (x * x % 65521);
    }

    /** A part (0 above, 1 below) of a fraction in lowest terms; 0 is 0 by 1. */
    private static long lowest(long above, long below, int part) {
        long shared = greatestShared(above, below);
        if (shared == 0) {
            return part;
        }
        return (part == 0 ? above : below) / shared;
    }

    private static long greatestShared(long a, long b) {
        for (int i = 0; i < MOST_DIVISIONS && b != 0; i++) {
            long rest = a % b;
            a = b;
            b = rest;
        }
        return a;
    }

    /** What LAID fixes until the next LAID: CELLS, JOINS and prices. */
    private static final class Net {
        int cells;
        int joins;
        int mostRounds;
        int pageCost;
        int updateCost;
        int callChance;
        final int[][] weight = new int[MOST_CELLS][MOST_CELLS];
        final int[][] wide = new int[MOST_CELLS][MOST_CELLS];
        /** CELLS JOINED to each, as bits. */
        final int[] near = new int[MOST_CELLS];
        /** All WEIGHTS from each together. */
        final int[] out = new int[MOST_CELLS];
        /**
         * For each CELL the sum, over all trees of JOINS that lead from everywhere to it, of the
         * product of their WEIGHTS. CHANCE is in proportion to SUM times this (the Markov chain
         * tree theorem), so that all fractions stay whole numbers over one number below.
         */
        final long[] trees = new long[MOST_CELLS];
        private final long[] minors = new long[1 << MOST_CELLS];

        void begin(int many) {
            cells = many;
            joins = 0;
            for (int a = 0; a < MOST_CELLS; a++) {
                near[a] = 0;
                out[a] = 0;
                for (int b = 0; b < MOST_CELLS; b++) {
                    weight[a][b] = 0;
                    wide[a][b] = a == b ? 0 : NO_WAY;
                }
            }
            price(2, 1, 5, 10);
        }

        void price(int r, int c, int u, int q) {
            mostRounds = r;
            pageCost = c;
            updateCost = u;
            callChance = q;
        }

        void join(int a, int b, int there, int back) {
            joins++;
            lead(a, b, there);
            lead(b, a, back);
        }

        private void lead(int a, int b, int w) {
            weight[a][b] = w;
            wide[a][b] = 1;
            near[a] |= 1 << b;
            out[a] += w;
        }

        /** Tells all WIDE, and whether all CELLS hang together. */
        boolean isWhole() {
            for (int by = 0; by < cells; by++) {
                for (int a = 0; a < cells; a++) {
                    for (int b = 0; b < cells; b++) {
                        wide[a][b] = Math.min(wide[a][b], wide[a][by] + wide[by][b]);
                    }
                }
            }
            for (int c = 1; c < cells; c++) {
                if (wide[0][c] >= NO_WAY) {
                    return false;
                }
            }
            return cells >= FEWEST_CELLS;
        }

        void growTrees() {
            for (int c = 0; c < cells; c++) {
                trees[c] = treesTo(c);
            }
        }

        /**
         * By the matrix tree theorem: the determinant of what leads out of the CELLS but the root.
         * minors[bits] is that of the first rows by the columns of bits, so nothing is divided.
         */
        private long treesTo(int root) {
            int others = ((1 << cells) - 1) & ~(1 << root);
            minors[0] = 1;
            for (int bits = 1; bits <= others; bits++) {
                if ((bits & ~others) == 0) {
                    minors[bits] = minorOf(bits, rowOf(Integer.bitCount(bits) - 1, root));
                }
            }
            return minors[others];
        }

        private int rowOf(int place, int root) {
            return place < root ? place : place + 1;
        }

        private long minorOf(int bits, int row) {
            long sum = 0;
            for (int c = 0; c < cells; c++) {
                if (holds(bits, c)) {
                    long entry = row == c ? out[row] : -weight[row][c];
                    boolean odd = (Integer.bitCount(bits >> (c + 1)) & 1) == 1;
                    sum += (odd ? -entry : entry) * minors[bits & ~(1 << c)];
                }
            }
            return sum;
        }
    }

    /** What a change changes, and so what is kept for UNDONE. */
    private static final class State {
        final int[] stay = new int[MOST_CELLS];
        final int[] area = new int[MOST_CELLS];
        int kind;
        int value;
        int cell;
        int home;
        int moves;
        int ticks;
        int updates;
        int paged;

        void begin() {
            for (int c = 0; c < MOST_CELLS; c++) {
                stay[c] = 1;
                area[c] = 0;
            }
            kind = CROSSING;
            value = 0;
            cell = 0;
            updates = 0;
            paged = 0;
            register();
        }

        void copyFrom(State other) {
            System.arraycopy(other.stay, 0, stay, 0, MOST_CELLS);
            System.arraycopy(other.area, 0, area, 0, MOST_CELLS);
            kind = other.kind;
            value = other.value;
            cell = other.cell;
            home = other.home;
            moves = other.moves;
            ticks = other.ticks;
            updates = other.updates;
            paged = other.paged;
        }

        void register() {
            home = cell;
            moves = 0;
            ticks = 0;
        }

        boolean canGo(Net net, int c) {
            return c == cell ? stay[c] > 0 : holds(net.near[cell], c);
        }

        /** A TICK to a CELL to which it can go; whether an UPDATE was due. */
        boolean go(Net net, int c) {
            if (c != cell) {
                moves++;
            }
            ticks++;
            cell = c;
            if (!isDue(net)) {
                return false;
            }
            register();
            updates++;
            return true;
        }

        private boolean isDue(Net net) {
            switch (kind) {
                case MOVES: return moves >= value;
                case TIME: return ticks >= value;
                default: return isOutside(net, cell);
            }
        }

        /** Whether the CELL alone, however it was come to, makes an UPDATE due. */
        boolean isOutside(Net net, int c) {
            switch (kind) {
                case CROSSING: return area[c] != area[home];
                case FAR: return net.wide[home][c] >= value;
                default: return false;
            }
        }

        int drawnCell(Net net, int draw) {
            int sum = stay[cell] + net.out[cell];
            int drawn = sum > 0 ? draw % sum : 0;
            int together = stay[cell];
            if (drawn < together) {
                return cell;
            }
            for (int c = 0; c < net.cells; c++) {
                together += net.weight[cell][c];
                if (drawn < together) {
                    return c;
                }
            }
            return cell;
        }
    }

    /** The last changes: the states ahead of them, in a ring. */
    private static final class Past {
        private final State[] kept = new State[MOST_CHANGES];
        private int next;
        int held;

        Past() {
            for (int i = 0; i < MOST_CHANGES; i++) {
                kept[i] = new State();
            }
        }

        void keep(State state) {
            kept[next].copyFrom(state);
            next = next + 1 < MOST_CHANGES ? next + 1 : 0;
            held = Math.min(held + 1, MOST_CHANGES);
        }

        boolean bringBack(State state) {
            if (held == 0) {
                return false;
            }
            next = next > 0 ? next - 1 : MOST_CHANGES - 1;
            held--;
            state.copyFrom(kept[next]);
            return true;
        }
    }

    /** THE TEXT and the reading of it, ITEM by ITEM. */
    private static final class Text {
        private final int[] letters = new int[MOST_LETTERS];
        private final int[] numbers = new int[MOST_NUMBERS];
        private int place;
        int length;

        boolean append(int letter) {
            if (length >= MOST_LETTERS) {
                return false;
            }
            letters[length] = letter;
            length++;
            return true;
        }

        /** FAULT or NONE; what the ITEMS ahead of it tell stands in net and state then. */
        int readInto(Net net, State state) {
            net.begin(0);
            state.begin();
            place = 0;
            for (int i = 0; i < MOST_LETTERS && place < length; i++) {
                int start = place;
                if (!readItem(net, state)) {
                    return start;
                }
            }
            return NONE;
        }

        private boolean readItem(Net net, State state) {
            int letter = letterHere();
            place++;
            boolean isFirst = net.cells == 0;
            if (isFirst != (letter == 'n') || !readNumbers(numbersBehind(letter))) {
                return false;
            }
            switch (letter) {
                case 'n': return takeCells(net);
                case 'j': return takeJoin(net);
                case 's': return takeCellNumber(net, state.stay, MOST_STAY);
                case 'a': return takeCellNumber(net, state.area, MOST_AREA);
                case 'l': return takeLaw(state);
                case 'p': return takePrices(net);
                default: return false;
            }
        }

        private int numbersBehind(int letter) {
            switch (letter) {
                case 'n': return 1;
                case 's':
                case 'a':
                case 'l': return 2;
                case 'j':
                case 'p': return 4;
                default: return 0;
            }
        }

        private boolean takeCells(Net net) {
            if (numbers[0] < FEWEST_CELLS || numbers[0] > MOST_CELLS) {
                return false;
            }
            net.begin(numbers[0]);
            return true;
        }

        private boolean takeJoin(Net net) {
            int a = numbers[0];
            int b = numbers[1];
            if (a >= net.cells || b >= net.cells || a == b || net.weight[a][b] != 0
                    || !isWeight(numbers[2]) || !isWeight(numbers[3])) {
                return false;
            }
            net.join(a, b, numbers[2], numbers[3]);
            return true;
        }

        private boolean isWeight(int w) {
            return w >= 1 && w <= MOST_WEIGHT;
        }

        private boolean takeCellNumber(Net net, int[] row, int most) {
            if (numbers[0] >= net.cells || numbers[1] > most) {
                return false;
            }
            row[numbers[0]] = numbers[1];
            return true;
        }

        private boolean takeLaw(State state) {
            if (!isLaw(numbers[0], numbers[1])) {
                return false;
            }
            state.kind = numbers[0];
            state.value = numbers[1];
            return true;
        }

        private boolean takePrices(Net net) {
            if (numbers[0] < 1 || numbers[0] > MOST_ROUNDS) {
                return false;
            }
            net.price(numbers[0], numbers[1], numbers[2], numbers[3]);
            return true;
        }

        /** Numbers with a comma between them and a ; behind the last. */
        private boolean readNumbers(int many) {
            for (int i = 0; i < many && i < MOST_NUMBERS; i++) {
                numbers[i] = readNumber();
                if (numbers[i] < 0 || letterHere() != (i + 1 < many ? ',' : ';')) {
                    return false;
                }
                place++;
            }
            return many > 0;
        }

        /** A number of one or two figures; -1 if there is no figure. */
        private int readNumber() {
            int first = figureHere();
            if (first < 0) {
                return -1;
            }
            place++;
            int second = figureHere();
            if (second < 0) {
                return first;
            }
            place++;
            return 10 * first + second;
        }

        private int figureHere() {
            boolean isFigure = place < length && letters[place] >= '0' && letters[place] <= '9';
            return isFigure ? letters[place] - '0' : -1;
        }

        private int letterHere() {
            return place < length ? letters[place] : -1;
        }
    }

    /** WHERE: all rows of TICKS at once, as sets of CELLS. */
    private static final class Whereabouts {
        /** By MOVES the CELLS come to by so many moves; by other LAWS the first alone is used. */
        private final int[] reached = new int[MOST_VALUE];

        int find(Net net, State state) {
            int levels = state.kind == MOVES ? Math.min(state.value, MOST_VALUE) : 1;
            int inside = insideOf(net, state);
            for (int m = 1; m < levels; m++) {
                reached[m] = 0;
            }
            reached[0] = 1 << state.home;
            boolean changes = true;
            for (int t = 0; t < state.ticks && changes; t++) {
                changes = step(net, state, levels, inside);
            }
            int all = 0;
            for (int m = 0; m < levels; m++) {
                all |= reached[m];
            }
            return all;
        }

        private int insideOf(Net net, State state) {
            int inside = 0;
            for (int c = 0; c < net.cells; c++) {
                if (!state.isOutside(net, c)) {
                    inside |= 1 << c;
                }
            }
            return inside;
        }

        /** A TICK; false if all stays as it was, for then every further TICK leaves it so, too. */
        private boolean step(Net net, State state, int levels, int inside) {
            boolean changes = false;
            for (int m = levels - 1; m >= 0; m--) {
                int come = state.kind != MOVES ? movers(net, reached[m])
                        : m > 0 ? movers(net, reached[m - 1]) : 0;
                int then = (stayers(net, state, reached[m]) | come) & inside;
                changes |= then != reached[m];
                reached[m] = then;
            }
            return changes;
        }

        private int stayers(Net net, State state, int from) {
            int bits = 0;
            for (int c = 0; c < net.cells; c++) {
                if (holds(from, c) && state.stay[c] > 0) {
                    bits |= 1 << c;
                }
            }
            return bits;
        }

        private int movers(Net net, int from) {
            int bits = 0;
            for (int c = 0; c < net.cells; c++) {
                if (holds(from, c)) {
                    bits |= net.near[c];
                }
            }
            return bits;
        }
    }

    /** CELLS in a row, and the cuts of it into ROUNDS. */
    private static final class Rounds {
        private final int[] row = new int[MOST_CELLS];
        private int length;
        /** A bit for each cut; the earlier the cut, the higher its bit. */
        private int cuts;
        int many;

        void lineUp(int cells, long[] chance) {
            length = 0;
            for (int c = 0; c < MOST_CELLS; c++) {
                if (holds(cells, c)) {
                    int at = length;
                    for (; at > 0 && chance[row[at - 1]] < chance[c]; at--) {
                        row[at] = row[at - 1];
                    }
                    row[at] = c;
                    length++;
                }
            }
        }

        /**
         * Cuts of one number of ROUNDS are tried from the highest bits down, so that the shorter
         * first ROUND, then second, is ahead; a later one is taken only if it is less.
         */
        void split(int most, long[] chance) {
            long least = -1;
            many = 0;
            cuts = 0;
            int everyCut = length > 0 ? (1 << (length - 1)) - 1 : -1;
            for (int tried = everyCut; tried >= 0; tried--) {
                int parts = Integer.bitCount(tried) + 1;
                long mean = parts <= most ? meanPaged(tried, chance) : -1;
                if (mean >= 0 && (least < 0 || mean < least || mean == least && parts < many)) {
                    least = mean;
                    cuts = tried;
                    many = parts;
                }
            }
        }

        private boolean isCutBehind(int tried, int at) {
            return at < length - 1 && holds(tried, length - 2 - at);
        }

        private long meanPaged(int tried, long[] chance) {
            long sum = 0;
            int paged = length;
            for (int at = length - 1; at >= 0; at--) {
                if (isCutBehind(tried, at)) {
                    paged = at + 1;
                }
                sum += paged * chance[row[at]];
            }
            return sum;
        }

        int cellsOf(int k) {
            int bits = 0;
            int part = 0;
            for (int at = 0; at < length; at++) {
                if (part == k) {
                    bits |= 1 << row[at];
                }
                if (isCutBehind(cuts, at)) {
                    part++;
                }
            }
            return bits;
        }
    }

    /** CHANCES and what follows of them, as whole numbers over one number below. */
    private static final class LongRun {
        /** CHANCE of each CELL, times below. */
        final long[] above = new long[MOST_CELLS];
        long below;
        final int[] best = new int[MOST_CELLS];
        /** Over PERCENT times below. */
        long leastExpense;
        private boolean bestKnown;
        private final int[] tried = new int[MOST_CELLS];

        /** To be called whenever STAYS or the net are others. */
        void reckon(Net net, State state) {
            below = 0;
            for (int c = 0; c < net.cells; c++) {
                above[c] = (state.stay[c] + net.out[c]) * net.trees[c];
                below += above[c];
            }
            bestKnown = false;
        }

        /** CHANCE by SUM is the trees over below, so WEIGHTS need no SUM here. */
        long crosses(Net net, int[] area) {
            long sum = 0;
            for (int a = 0; a < net.cells; a++) {
                for (int b = 0; b < net.cells; b++) {
                    if (area[a] != area[b]) {
                        sum += net.trees[a] * net.weight[a][b];
                    }
                }
            }
            return sum;
        }

        long movesOn(Net net) {
            long sum = 0;
            for (int c = 0; c < net.cells; c++) {
                sum += net.trees[c] * net.out[c];
            }
            return sum;
        }

        /** EXPENSE by these AREAS, times PERCENT times below. */
        long expense(Net net, int[] area) {
            long crowd = 0;
            for (int c = 0; c < net.cells; c++) {
                crowd += above[c] * sameArea(net.cells, area, c);
            }
            return PERCENT * net.updateCost * crosses(net, area)
                    + net.pageCost * net.callChance * crowd;
        }

        void findBest(Net net) {
            if (bestKnown) {
                return;
            }
            bestKnown = true;
            for (int c = 0; c < MOST_CELLS; c++) {
                tried[c] = 0;
            }
            takeTried(expense(net, tried));
            for (int i = 0; i < MOST_PARTINGS && nextTried(net.cells); i++) {
                long found = expense(net, tried);
                if (found < leastExpense) {
                    takeTried(found);
                }
            }
        }

        private void takeTried(long found) {
            leastExpense = found;
            System.arraycopy(tried, 0, best, 0, MOST_CELLS);
        }

        /** The next way to give AREAS, in the document's order; false behind the last. */
        private boolean nextTried(int cells) {
            for (int c = cells - 1; c > 0; c--) {
                if (tried[c] <= highestAhead(c)) {
                    tried[c]++;
                    return true;
                }
                tried[c] = 0;
            }
            return false;
        }

        private int highestAhead(int c) {
            int highest = 0;
            for (int d = 0; d < c; d++) {
                highest = Math.max(highest, tried[d]);
            }
            return highest;
        }
    }
}
