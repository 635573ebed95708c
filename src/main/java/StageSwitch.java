import java.util.Arrays;

/**
 * Switches in three stages with their calls, switches of powers of two set by going round,
 * demands parted into orders, and costs. The document's promises say what each call answers.
 */
public final class StageSwitch {
    public static final int NONE = -1000000, BAD = -1000001, STATE = -1000002;

    private static final int FINDINGS = -1000010;
    private static final int NULL = 1, PLACE = 2, KIND = 3, SIZE = 4, STORE = 5;

    private static final int NET = 0, LOOSE = 1, STRICT = 2, BARE = 3;

    private static final int SHEETS = 8, MOST_ITEMS = 64, LAST_LANE = 2;
    private static final int PLACES = 6, MOST_MIDDLES = 12, MOST_LINES = 6, MOST_SWITCHES = 6;
    private static final int MOST_POWER = 4;
    private static final int MOST_TABLE = 6, MOST_DEMAND = 1000;
    private static final int MOST_CROSS_LINES = 64, MOST_LEVELS = 2;
    private static final int MOST_SHUT_MIDDLES = 9;

    private final Sheet[] sheets;
    private final Net[] shelf;
    private final Asks asks;
    private final Rounds rounds;
    private final Parts parts;
    private int latestFinding;

    public StageSwitch() {
        sheets = new Sheet[SHEETS];
        shelf = new Net[PLACES];
        asks = new Asks();
        rounds = new Rounds();
        parts = new Parts();
        latestFinding = 0;
    }

    // ---- sheets

    public int sheet(int sheet, int lane, int n) {
        if (!isSheet(sheet) || !within(lane, 0, LAST_LANE) || n > MOST_ITEMS) {
            return BAD;
        }
        if (n < 0) {
            return found(SIZE);
        }
        sheets[sheet] = new Sheet(lane, n);
        return fine(n);
    }

    public int set(int sheet, int i, int v) {
        if (!isSheet(sheet)) {
            return BAD;
        }
        Sheet at = sheets[sheet];
        if (at == null) {
            return found(NULL);
        }
        if (!at.holds(i, 1)) {
            return found(PLACE);
        }
        at.items[i] = at.cutToLane(v);
        return fine(at.items[i]);
    }

    public int copy(int a, int i, int b, int j, int n) {
        if (!isSheet(a) || !isSheet(b)) {
            return BAD;
        }
        Sheet source = sheets[a];
        Sheet target = sheets[b];
        if (source == null || target == null) {
            return found(NULL);
        }
        if (source.lane != target.lane) {
            return found(STORE);
        }
        if (!source.holds(i, n) || !target.holds(j, n)) {
            return found(PLACE);
        }
        System.arraycopy(source.items, i, target.items, j, n);
        return fine(n);
    }

    public int drop(int sheet) {
        if (!isSheet(sheet)) {
            return BAD;
        }
        Sheet at = sheets[sheet];
        if (at == null) {
            return found(NULL);
        }
        sheets[sheet] = null;
        return fine(at.items.length);
    }

    // ---- nets

    public int net(int place, int m, int n, int r) {
        if (!isPlace(place) || !within(m, 1, MOST_MIDDLES)
                || !within(n, 1, MOST_LINES) || !within(r, 1, MOST_SWITCHES)) {
            return BAD;
        }
        Net made = new Net(m, n, r);
        shelf[place] = made;
        return fine(made.toldKind());
    }

    public int clear(int place) {
        if (!isPlace(place)) {
            return BAD;
        }
        boolean held = shelf[place] != null;
        shelf[place] = null;
        return held ? 1 : 0;
    }

    public int kind(int place) {
        if (!isPlace(place)) {
            return BAD;
        }
        Net net = shelf[place];
        if (net == null) {
            return found(NULL);
        }
        return fine(net.toldKind());
    }

    public int is(int place, int kind) {
        if (!isPlace(place) || !isKind(kind)) {
            return BAD;
        }
        Net net = shelf[place];
        return net != null && countsAs(net.toldKind(), kind) ? 1 : 0;
    }

    public int as(int place, int kind) {
        if (!isPlace(place) || !isKind(kind)) {
            return BAD;
        }
        Net net = shelf[place];
        if (net == null) {
            return found(NULL);
        }
        if (!countsAs(net.toldKind(), kind)) {
            return found(KIND);
        }
        return fine(net.alive);
    }

    public int ask(int place, int what) {
        if (!isPlace(place) || !within(what, 0, 1)) {
            return BAD;
        }
        asks.emptyTrace();
        Net net = shelf[place];
        if (net == null) {
            return found(NULL);
        }
        return fine(what == 0 ? asks.sizeOf(net) : asks.markOf(net));
    }

    public int trace(int i) {
        return asks.traced(i);
    }

    // ---- calls

    public int call(int place, int a, int b, int how) {
        if (!isPlace(place) || !within(how, 0, 1)) {
            return BAD;
        }
        Net net = shelf[place];
        if (net == null) {
            return found(NULL);
        }
        if (!net.hasLine(a) || !net.hasLine(b)) {
            return BAD;
        }
        if (net.isBusy(a, b)) {
            return STATE;
        }
        return fine(net.setUp(a, b, how == 1));
    }

    public int end(int place, int a) {
        if (!isPlace(place)) {
            return BAD;
        }
        Net net = shelf[place];
        if (net == null) {
            return found(NULL);
        }
        if (!net.hasLine(a)) {
            return BAD;
        }
        int out = net.outOf[a];
        net.takeOff(a);
        return fine(out);
    }

    public int line(int place, int a, int what) {
        if (!isPlace(place) || !within(what, 0, 1)) {
            return BAD;
        }
        Net net = shelf[place];
        if (net == null) {
            return found(NULL);
        }
        if (!net.hasLine(a)) {
            return BAD;
        }
        return fine(what == 0 ? net.outOf[a] : net.middleOf[a]);
    }

    public int free(int place, int a, int b, int what) {
        if (!isPlace(place) || !within(what, 0, 1)) {
            return BAD;
        }
        Net net = shelf[place];
        if (net == null) {
            return found(NULL);
        }
        if (!net.hasLine(a) || !net.hasLine(b)) {
            return BAD;
        }
        if (net.isBusy(a, b)) {
            return STATE;
        }
        return fine(what == 0 ? net.howManyFree(a, b) : net.plan(a, b, true));
    }

    public int die(int place, int middle) {
        if (!isPlace(place)) {
            return BAD;
        }
        Net net = shelf[place];
        if (net == null) {
            return found(NULL);
        }
        if (!net.hasMiddle(middle)) {
            return BAD;
        }
        if (net.dead[middle]) {
            return STATE;
        }
        return fine(net.killMiddle(middle));
    }

    public int mend(int place, int middle) {
        if (!isPlace(place)) {
            return BAD;
        }
        Net net = shelf[place];
        if (net == null) {
            return found(NULL);
        }
        if (!net.hasMiddle(middle)) {
            return BAD;
        }
        return fine(net.reviveMiddle(middle) ? 1 : 0);
    }

    // ---- lines in powers

    public int bit(int k, int sheet, int i, int stage, int j) {
        if (!isSheet(sheet) || !within(k, 1, MOST_POWER)
                || !within(stage, 0, 2 * k - 2) || !within(j, 0, (1 << (k - 1)) - 1)) {
            return BAD;
        }
        Sheet at = sheets[sheet];
        if (at == null) {
            return found(NULL);
        }
        if (!at.holds(i, 1 << k)) {
            return found(PLACE);
        }
        if (!rounds.takeOrder(at, i, k)) {
            return BAD;
        }
        rounds.setAllSwitches(k);
        return fine(rounds.bits[stage][j]);
    }

    public int goes(int k, int sheet, int i, int x) {
        if (!isSheet(sheet) || !within(k, 1, MOST_POWER) || !within(x, 0, (1 << k) - 1)) {
            return BAD;
        }
        Sheet at = sheets[sheet];
        if (at == null) {
            return found(NULL);
        }
        if (!at.holds(i, (2 * k - 1) << (k - 1))) {
            return found(PLACE);
        }
        rounds.takeBits(at, i, k);
        return fine(rounds.follow(k, x));
    }

    // ---- demand, costs

    public int demand(int sheet, int i, int s, int part, int j) {
        if (!isSheet(sheet) || !within(s, 1, MOST_TABLE) || !within(j, -1, s - 1)) {
            return BAD;
        }
        Sheet at = sheets[sheet];
        if (at == null) {
            return found(NULL);
        }
        if (!at.holds(i, s * s)) {
            return found(PLACE);
        }
        if (!parts.takeTable(at, i, s)) {
            return BAD;
        }
        if (part == NONE) {
            return fine(parts.takeUpTo(Parts.MOST_PARTS));
        }
        if (!within(part, 0, Parts.MOST_PARTS - 1) || parts.takeUpTo(part + 1) <= part) {
            return fine(NONE);
        }
        return fine(j == -1 ? parts.times : parts.order[j]);
    }

    public int cross(int lines, int levels, int law) {
        if (!within(lines, 1, MOST_CROSS_LINES) || !within(levels, 0, MOST_LEVELS) || !within(law, 0, 1)) {
            return BAD;
        }
        return crosspoints(lines, levels, law);
    }

    public long shut(int m, int t) {
        if (!within(m, 1, MOST_SHUT_MIDDLES) || !within(t, 0, 10)) {
            return BAD;
        }
        long blockedOfHundred = 100 - (10 - t) * (10 - t);
        long cases = 1;
        for (int middle = 0; middle < m; middle++) {
            cases *= blockedOfHundred;
        }
        return cases;
    }

    public int count(int what) {
        switch (what) {
            case 0: return countSheets();
            case 1: return countNets(NET);
            case 2: return countNets(LOOSE);
            case 3: return countNets(STRICT);
            case 4: return countNets(BARE);
            case 5: return countCalls();
            default: return BAD;
        }
    }

    public int status() {
        return latestFinding;
    }

    private int found(int finding) {
        latestFinding = finding;
        return FINDINGS - finding;
    }

    private int fine(int answer) {
        latestFinding = 0;
        return answer;
    }

    private int countSheets() {
        int sum = 0;
        for (int sheet = 0; sheet < SHEETS; sheet++) {
            if (sheets[sheet] != null) {
                sum++;
            }
        }
        return sum;
    }

    private int countNets(int kind) {
        int sum = 0;
        for (int place = 0; place < PLACES; place++) {
            Net net = shelf[place];
            if (net != null && countsAs(net.toldKind(), kind)) {
                sum++;
            }
        }
        return sum;
    }

    private int countCalls() {
        int sum = 0;
        for (int place = 0; place < PLACES; place++) {
            Net net = shelf[place];
            if (net != null) {
                sum += net.calls;
            }
        }
        return sum;
    }

    private static boolean within(int number, int least, int most) {
        return number >= least && number <= most;
    }

    private static boolean isSheet(int sheet) {
        return within(sheet, 0, SHEETS - 1);
    }

    private static boolean isPlace(int place) {
        return within(place, 0, PLACES - 1);
    }

    private static boolean isKind(int kind) {
        return within(kind, NET, BARE);
    }

    /** Whether what is told as one KIND is of another, too: all are a NET, a STRICT one is LOOSE. */
    private static boolean countsAs(int told, int kind) {
        return kind == told || kind == NET || (kind == LOOSE && told == STRICT);
    }

    private static int crosspoints(int lines, int levels, int law) {
        int least = lines * lines;
        if (levels <= 0) {
            return least;
        }
        for (int n = 2; n < lines; n++) {
            if (lines % n == 0) {
                int r = lines / n;
                int m = law == 0 ? n : 2 * n - 1;
                least = Math.min(least, 2 * r * n * m + m * crosspoints(r, levels - 1, law));
            }
        }
        return least;
    }

    /** A SHEET: ITEMS of one LANE. */
    private static final class Sheet {
        final int lane;
        final int[] items;

        Sheet(int lane, int n) {
            this.lane = lane;
            items = new int[n];
        }

        /** Whether n ITEMS stand from i on; told by a difference, as a sum could run over. */
        boolean holds(int i, int n) {
            return i >= 0 && n >= 0 && n <= items.length && i <= items.length - n;
        }

        int cutToLane(int v) {
            if (lane == 0) {
                return (byte) v;
            }
            return lane == 1 ? (short) v : v;
        }
    }

    /** A NET with its CALLS. Each CALL is known by its LINE in. */
    private static final class Net {
        private static final int NO_CALL = -1;

        final int middles;
        final int linesEach;
        final int switches;
        final int lines;
        final boolean[] dead;
        /** Of a LINE in: the LINE out and the middle one of its CALL, or NONE. */
        final int[] outOf;
        final int[] middleOf;
        private final boolean[] outTaken;
        /** Of a link: the LINE in of its CALL, or NO_CALL. */
        private final int[] fromFirst;
        private final int[] toLast;
        /** Made once and used again by each walk along a CHAIN, and by each middle one that DIES. */
        private final int[] chain;
        private final int[] shedIn;
        private final int[] shedOut;
        int alive;
        int calls;
        private int plannedX;
        private int plannedY;

        Net(int m, int n, int r) {
            middles = m;
            linesEach = n;
            switches = r;
            lines = r * n;
            dead = new boolean[m];
            outOf = new int[lines];
            middleOf = new int[lines];
            outTaken = new boolean[lines];
            fromFirst = new int[m * r];
            toLast = new int[m * r];
            chain = new int[lines];
            shedIn = new int[lines];
            shedOut = new int[lines];
            alive = m;
            calls = 0;
            plannedX = 0;
            plannedY = 0;
            Arrays.fill(outOf, NONE);
            Arrays.fill(middleOf, NONE);
            Arrays.fill(fromFirst, NO_CALL);
            Arrays.fill(toLast, NO_CALL);
        }

        boolean hasLine(int line) {
            return within(line, 0, lines - 1);
        }

        boolean hasMiddle(int middle) {
            return within(middle, 0, middles - 1);
        }

        boolean isBusy(int a, int b) {
            return outOf[a] != NONE || outTaken[b];
        }

        int toldKind() {
            if (alive >= 2 * linesEach - 1) {
                return STRICT;
            }
            if (alive >= linesEach) {
                return LOOSE;
            }
            return alive == 1 ? BARE : NET;
        }

        int howManyFree(int a, int b) {
            int sum = 0;
            for (int middle = 0; middle < middles; middle++) {
                if (isFree(middle, a, b)) {
                    sum++;
                }
            }
            return sum;
        }

        /** How many others are to be moved for a CALL, or NONE; by which middle ones, is kept for setUp. */
        int plan(int a, int b, boolean moving) {
            for (int middle = 0; middle < middles; middle++) {
                if (isFree(middle, a, b)) {
                    plannedX = middle;
                    return 0;
                }
            }
            return moving ? planMoves(a, b) : NONE;
        }

        /** Sets up a CALL between two LINES without one: how many others were moved, or NONE. */
        int setUp(int a, int b, boolean moving) {
            int moves = plan(a, b, moving);
            if (moves == NONE) {
                return NONE;
            }
            if (moves > 0) {
                swapChain(plannedX, plannedY, b);
            }
            outOf[a] = b;
            outTaken[b] = true;
            calls++;
            takeLinks(a, plannedX);
            return moves;
        }

        void takeOff(int a) {
            int out = outOf[a];
            if (out == NONE) {
                return;
            }
            leaveLinks(a);
            outOf[a] = NONE;
            outTaken[out] = false;
            calls--;
        }

        /** How many CALLS are lost. All of them leave before the first is set up anew. */
        int killMiddle(int middle) {
            int shed = 0;
            for (int a = 0; a < lines; a++) {
                if (middleOf[a] == middle) {
                    shedIn[shed] = a;
                    shedOut[shed] = outOf[a];
                    takeOff(a);
                    shed++;
                }
            }
            dead[middle] = true;
            alive--;
            int lost = 0;
            for (int each = 0; each < shed; each++) {
                if (setUp(shedIn[each], shedOut[each], true) == NONE) {
                    lost++;
                }
            }
            return lost;
        }

        boolean reviveMiddle(int middle) {
            if (!dead[middle]) {
                return false;
            }
            dead[middle] = false;
            alive++;
            return true;
        }

        private int planMoves(int a, int b) {
            int fewest = NONE;
            for (int x = 0; x < middles; x++) {
                if (!isFreeFrom(x, a)) {
                    continue;
                }
                for (int y = 0; y < middles; y++) {
                    if (!isFreeTo(y, b)) {
                        continue;
                    }
                    int length = walkChain(x, y, b);
                    if (fewest == NONE || length < fewest) {
                        fewest = length;
                        plannedX = x;
                        plannedY = y;
                    }
                }
            }
            return fewest;
        }

        /** Puts the CALLS of the CHAIN that makes room at LINE b's switch into chain: how many. */
        private int walkChain(int x, int y, int b) {
            int length = 0;
            int line = toLast[link(x, b)];
            while (line != NO_CALL && length < lines) {
                chain[length] = line;
                length++;
                boolean byX = length % 2 == 1;
                line = byX ? fromFirst[link(y, line)] : toLast[link(x, outOf[line])];
            }
            return length;
        }

        /** All leave their links before one takes its new links: these are another one's of the CHAIN. */
        private void swapChain(int x, int y, int b) {
            int length = walkChain(x, y, b);
            for (int each = 0; each < length; each++) {
                leaveLinks(chain[each]);
            }
            for (int each = 0; each < length; each++) {
                takeLinks(chain[each], each % 2 == 0 ? y : x);
            }
        }

        private void takeLinks(int a, int middle) {
            middleOf[a] = middle;
            fromFirst[link(middle, a)] = a;
            toLast[link(middle, outOf[a])] = a;
        }

        private void leaveLinks(int a) {
            fromFirst[link(middleOf[a], a)] = NO_CALL;
            toLast[link(middleOf[a], outOf[a])] = NO_CALL;
            middleOf[a] = NONE;
        }

        private boolean isFree(int middle, int a, int b) {
            return isFreeFrom(middle, a) && isFreeTo(middle, b);
        }

        private boolean isFreeFrom(int middle, int a) {
            return !dead[middle] && fromFirst[link(middle, a)] == NO_CALL;
        }

        private boolean isFreeTo(int middle, int b) {
            return !dead[middle] && toLast[link(middle, b)] == NO_CALL;
        }

        /** Where the link between a middle one and the switch of a LINE stands, on either side. */
        private int link(int middle, int line) {
            return middle * switches + line / linesEach;
        }
    }

    /** The ASKS by their BODIES, and THE TRACE that these leave. */
    private static final class Asks {
        private final int[] begun = new int[16];
        private int howMany;

        void emptyTrace() {
            howMany = 0;
        }

        int traced(int i) {
            return within(i, 0, howMany - 1) ? begun[i] : NONE;
        }

        int sizeOf(Net net) {
            switch (net.toldKind()) {
                case LOOSE: return sizeOfLoose(net);
                case STRICT: return sizeOfStrict(net);
                case BARE: return sizeOfBare(net);
                default: return sizeOfNet(net);
            }
        }

        int markOf(Net net) {
            switch (net.toldKind()) {
                case LOOSE:
                case STRICT: return markOfLoose(net);
                case BARE: return markOfBare(net);
                default: return markOfNet(net);
            }
        }

        private int sizeOfNet(Net net) {
            begin(10);
            return net.lines;
        }

        private int sizeOfLoose(Net net) {
            begin(11);
            return sizeOfNet(net) + net.alive;
        }

        /** No ask changes a KIND: MARK, asked anew of a STRICT one, is always that of LOOSE ones. */
        private int sizeOfStrict(Net net) {
            begin(12);
            int lent = sizeOfLoose(net);
            return lent + markOfLoose(net);
        }

        private int sizeOfBare(Net net) {
            begin(13);
            return sizeOfNet(net) / 2;
        }

        private int markOfNet(Net net) {
            begin(20);
            return net.calls;
        }

        private int markOfLoose(Net net) {
            begin(21);
            return markOfNet(net) + 100;
        }

        /** SIZE, asked anew of a BARE one, is always that of BARE ones. */
        private int markOfBare(Net net) {
            begin(22);
            int lent = markOfNet(net);
            return lent + sizeOfBare(net);
        }

        private void begin(int body) {
            if (howMany < begun.length) {
                begun[howMany] = body;
                howMany++;
            }
        }
    }

    /**
     * LINES in powers. At depth d stand 2 to the power d halves of halves, each with its LINES in
     * one block; stage d and its mirror, stage 2 k - 2 - d, are the outer stages of these.
     */
    private static final class Rounds {
        private static final int UPPER = 0, LOWER = 1, NOT_LED = -1;

        final int[][] bits = new int[2 * MOST_POWER - 1][1 << (MOST_POWER - 1)];
        /** A row a depth; a block's LINES count from 0 on in it. */
        private final int[][] orders = new int[MOST_POWER][1 << MOST_POWER];
        /** Of the block that is gone round: the LINE in for a LINE out, the half of a LINE in. */
        private final int[] lineInFor = new int[1 << MOST_POWER];
        private final int[] halfOf = new int[1 << MOST_POWER];

        /** Takes the ORDER that ITEMS from i on tell; false: they tell none. */
        boolean takeOrder(Sheet sheet, int i, int k) {
            int lines = 1 << k;
            int seen = 0;
            for (int line = 0; line < lines; line++) {
                int out = sheet.items[i + line];
                if (!within(out, 0, lines - 1) || ((seen >> out) & 1) == 1) {
                    return false;
                }
                seen |= 1 << out;
                orders[0][line] = out;
            }
            return true;
        }

        void setAllSwitches(int k) {
            int lines = 1 << k;
            for (int depth = 0; depth < k - 1; depth++) {
                int size = lines >> depth;
                for (int base = 0; base < lines; base += size) {
                    goRound(depth, base, size);
                    setOuterStages(2 * k - 2, depth, base, size);
                    handToHalves(depth, base, size);
                }
            }
            for (int j = 0; j < lines / 2; j++) {
                bits[k - 1][j] = orders[k - 1][2 * j];
            }
        }

        void takeBits(Sheet sheet, int i, int k) {
            int each = 1 << (k - 1);
            for (int stage = 0; stage < 2 * k - 1; stage++) {
                for (int j = 0; j < each; j++) {
                    bits[stage][j] = sheet.items[i + stage * each + j] == 0 ? 0 : 1;
                }
            }
        }

        /** Where LINE x goes out by the bits that stand. */
        int follow(int k, int x) {
            int block = 0;
            int line = x;
            for (int depth = 0; depth < k - 1; depth++) {
                int size = 1 << (k - depth);
                int half = (line % 2) ^ bits[depth][block * size / 2 + line / 2];
                block = 2 * block + half;
                line /= 2;
            }
            line ^= bits[k - 1][block];
            for (int depth = k - 2; depth >= 0; depth--) {
                int size = 1 << (k - depth);
                int half = block % 2;
                block /= 2;
                line = 2 * line + (half ^ bits[2 * k - 2 - depth][block * size / 2 + line]);
            }
            return line;
        }

        private void goRound(int depth, int base, int size) {
            int[] order = orders[depth];
            for (int line = 0; line < size; line++) {
                lineInFor[order[base + line]] = line;
                halfOf[line] = NOT_LED;
            }
            for (int start = 0; start < size; start++) {
                int line = start;
                for (int step = 0; step < size && halfOf[line] == NOT_LED; step++) {
                    halfOf[line] = UPPER;
                    int otherIn = lineInFor[other(order[base + line])];
                    halfOf[otherIn] = LOWER;
                    line = other(otherIn);
                }
            }
        }

        private void setOuterStages(int lastStage, int depth, int base, int size) {
            for (int j = 0; j < size / 2; j++) {
                bits[depth][base / 2 + j] = halfOf[2 * j];
                bits[lastStage - depth][base / 2 + j] = halfOf[lineInFor[2 * j]];
            }
        }

        private void handToHalves(int depth, int base, int size) {
            for (int line = 0; line < size; line++) {
                int blockOfHalf = base + halfOf[line] * size / 2;
                orders[depth + 1][blockOfHalf + line / 2] = orders[depth][base + line] / 2;
            }
        }

        /** The other LINE of its switch. */
        private static int other(int line) {
            return line ^ 1;
        }
    }

    /** The PARTS of a DEMAND, taken off its table one by one. */
    private static final class Parts {
        /** Each PART leaves one number more at 0, so there are not more PARTS than numbers. */
        static final int MOST_PARTS = MOST_TABLE * MOST_TABLE;

        /** Of the latest PART: its ORDER, and how often. */
        final int[] order = new int[MOST_TABLE];
        int times;
        private final int[][] left = new int[MOST_TABLE][MOST_TABLE];
        private int size;

        /** Takes the table that ITEMS from i on tell, row by row; false: it is no DEMAND. */
        boolean takeTable(Sheet sheet, int i, int s) {
            size = s;
            for (int row = 0; row < s; row++) {
                for (int column = 0; column < s; column++) {
                    int number = sheet.items[i + row * s + column];
                    if (!within(number, 0, MOST_DEMAND)) {
                        return false;
                    }
                    left[row][column] = number;
                }
            }
            int sum = sumOfRow(0);
            for (int each = 0; each < s; each++) {
                if (sumOfRow(each) != sum || sumOfColumn(each) != sum) {
                    return false;
                }
            }
            return true;
        }

        /** Takes so many PARTS off, or fewer if no more are left (then no ORDER is found): how many. */
        int takeUpTo(int wanted) {
            int taken = 0;
            while (taken < wanted && findOrder(0, 0, size, left, order)) {
                takeOrderOff();
                taken++;
            }
            return taken;
        }

        private void takeOrderOff() {
            times = MOST_DEMAND;
            for (int row = 0; row < size; row++) {
                times = Math.min(times, left[row][order[row]]);
            }
            for (int row = 0; row < size; row++) {
                left[row][order[row]] -= times;
            }
        }

        /**
         * Whether the rows from this one on find columns above 0 that the rows ahead did not take.
         * The least columns are tried first, so the first ORDER that is whole is the least.
         */
        private static boolean findOrder(int row, int takenColumns, int size, int[][] left, int[] order) {
            if (row >= size) {
                return true;
            }
            for (int column = 0; column < size; column++) {
                boolean taken = ((takenColumns >> column) & 1) == 1;
                if (!taken && left[row][column] > 0) {
                    order[row] = column;
                    if (findOrder(row + 1, takenColumns | (1 << column), size, left, order)) {
                        return true;
                    }
                }
            }
            return false;
        }

        private int sumOfRow(int row) {
            int sum = 0;
            for (int column = 0; column < size; column++) {
                sum += left[row][column];
            }
            return sum;
        }

        private int sumOfColumn(int column) {
            int sum = 0;
            for (int row = 0; row < size; row++) {
                sum += left[row][column];
            }
            return sum;
        }
    }
}
