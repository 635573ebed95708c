import java.util.ArrayList;
import java.util.Arrays;
import java.util.List;
import java.util.TreeMap;

/**
 * The document told once more, slowly: the CALLS of a NET are a plain list, and all else is looked
 * up in it by going through; halves are built as switches of their own; ORDERS are tried one by one.
 */
final class Model {
    static final int NONE = -1000000, BAD = -1000001, STATE = -1000002;
    private static final int NULL = 1, PLACE = 2, KIND = 3, SIZE = 4, STORE = 5;

    private final TreeMap<Integer, long[]> sheets = new TreeMap<>();
    private final TreeMap<Integer, Integer> lanes = new TreeMap<>();
    private final TreeMap<Integer, ModelNet> nets = new TreeMap<>();
    private List<Integer> trace = new ArrayList<>();
    private int status = 0;

    /** Call number which of the face, in the document's order from sheet = 0 to status = 23. */
    long answer(int which, int[] p) {
        switch (which) {
            case 0: return sheet(p[0], p[1], p[2]);
            case 1: return set(p[0], p[1], p[2]);
            case 2: return copy(p[0], p[1], p[2], p[3], p[4]);
            case 3: return drop(p[0]);
            case 4: return net(p[0], p[1], p[2], p[3]);
            case 5: return clear(p[0]);
            case 6: return out(p[0], 0, 5) ? BAD : !nets.containsKey(p[0]) ? find(NULL) : ok(nets.get(p[0]).kind());
            case 7: return is(p[0], p[1]);
            case 8: return as(p[0], p[1]);
            case 9: return ask(p[0], p[1]);
            case 10: return p[0] >= 0 && p[0] < Math.min(16, trace.size()) ? trace.get(p[0]) : NONE;
            case 11: return call(p[0], p[1], p[2], p[3]);
            case 12: return end(p[0], p[1]);
            case 13: return line(p[0], p[1], p[2]);
            case 14: return free(p[0], p[1], p[2], p[3]);
            case 15: return die(p[0], p[1]);
            case 16: return mend(p[0], p[1]);
            case 17: return bit(p[0], p[1], p[2], p[3], p[4]);
            case 18: return goes(p[0], p[1], p[2], p[3]);
            case 19: return demand(p[0], p[1], p[2], p[3], p[4]);
            case 20: return out(p[0], 1, 64) || out(p[1], 0, 2) || out(p[2], 0, 1) ? BAD : cross(p[0], p[1], p[2]);
            case 21: return out(p[0], 1, 9) || out(p[1], 0, 10) ? BAD : shut(p[0], p[1]);
            case 22: return count(p[0]);
            default: return status;
        }
    }

    private static boolean out(int number, int least, int most) {
        return number < least || number > most;
    }

    private long find(int finding) {
        status = finding;
        return -1000010L - finding;
    }

    private long ok(long answer) {
        status = 0;
        return answer;
    }

    private long sheet(int sheet, int lane, int n) {
        if (out(sheet, 0, 7) || out(lane, 0, 2) || n > 64) {
            return BAD;
        }
        if (n < 0) {
            return find(SIZE);
        }
        sheets.put(sheet, new long[n]);
        lanes.put(sheet, lane);
        return ok(n);
    }

    private long set(int sheet, int i, int v) {
        if (out(sheet, 0, 7)) {
            return BAD;
        }
        if (!sheets.containsKey(sheet)) {
            return find(NULL);
        }
        long[] items = sheets.get(sheet);
        if (out(i, 0, items.length - 1)) {
            return find(PLACE);
        }
        long span = lanes.get(sheet) == 0 ? 1L << 8 : lanes.get(sheet) == 1 ? 1L << 16 : 1L << 32;
        items[i] = Math.floorMod(v + span / 2, span) - span / 2;
        return ok(items[i]);
    }

    private long copy(int a, int i, int b, int j, int n) {
        if (out(a, 0, 7) || out(b, 0, 7)) {
            return BAD;
        }
        if (!sheets.containsKey(a) || !sheets.containsKey(b)) {
            return find(NULL);
        }
        if (!lanes.get(a).equals(lanes.get(b))) {
            return find(STORE);
        }
        long[] from = sheets.get(a).clone();
        long[] to = sheets.get(b);
        if (i < 0 || j < 0 || n < 0 || (long) i + n > from.length || (long) j + n > to.length) {
            return find(PLACE);
        }
        for (int each = 0; each < n; each++) {
            to[j + each] = from[i + each];
        }
        return ok(n);
    }

    private long drop(int sheet) {
        if (out(sheet, 0, 7)) {
            return BAD;
        }
        long[] items = sheets.remove(sheet);
        return items == null ? find(NULL) : ok(items.length);
    }

    private long net(int place, int m, int n, int r) {
        if (out(place, 0, 5) || out(m, 1, 12) || out(n, 1, 6) || out(r, 1, 6)) {
            return BAD;
        }
        nets.put(place, new ModelNet(m, n, r));
        return ok(nets.get(place).kind());
    }

    private long clear(int place) {
        if (out(place, 0, 5)) {
            return BAD;
        }
        return nets.remove(place) == null ? 0 : 1;
    }

    private static List<Integer> kindsOf(int told) {
        return told == 2 ? List.of(2, 1, 0) : told == 0 ? List.of(0) : List.of(told, 0);
    }

    private long is(int place, int kind) {
        if (out(place, 0, 5) || out(kind, 0, 3)) {
            return BAD;
        }
        return nets.containsKey(place) && kindsOf(nets.get(place).kind()).contains(kind) ? 1 : 0;
    }

    private long as(int place, int kind) {
        if (out(place, 0, 5) || out(kind, 0, 3)) {
            return BAD;
        }
        if (!nets.containsKey(place)) {
            return find(NULL);
        }
        ModelNet net = nets.get(place);
        return kindsOf(net.kind()).contains(kind) ? ok(net.living().size()) : find(KIND);
    }

    private long ask(int place, int what) {
        if (out(place, 0, 5) || out(what, 0, 1)) {
            return BAD;
        }
        trace = new ArrayList<>();
        if (!nets.containsKey(place)) {
            return find(NULL);
        }
        ModelNet net = nets.get(place);
        return ok(body(net, what == 0 ? sizeBody(net) : markBody(net)));
    }

    private static int sizeBody(ModelNet net) {
        return 10 + net.kind();
    }

    private static int markBody(ModelNet net) {
        return new int[] {20, 21, 21, 22}[net.kind()];
    }

    private long body(ModelNet net, int body) {
        trace.add(body);
        switch (body) {
            case 10: return net.r * net.n;
            case 11: return body(net, 10) + net.living().size();
            case 12: return body(net, 11) + body(net, markBody(net));
            case 13: return body(net, 10) / 2;
            case 20: return net.calls.size();
            case 21: return body(net, 20) + 100;
            default: return body(net, 20) + body(net, sizeBody(net));
        }
    }

    private long call(int place, int a, int b, int how) {
        if (out(place, 0, 5) || out(how, 0, 1)) {
            return BAD;
        }
        if (!nets.containsKey(place)) {
            return find(NULL);
        }
        ModelNet net = nets.get(place);
        if (out(a, 0, net.r * net.n - 1) || out(b, 0, net.r * net.n - 1)) {
            return BAD;
        }
        return net.busy(a, b) ? STATE : ok(net.setUp(a, b, how == 1));
    }

    private long end(int place, int a) {
        if (out(place, 0, 5)) {
            return BAD;
        }
        if (!nets.containsKey(place)) {
            return find(NULL);
        }
        ModelNet net = nets.get(place);
        if (out(a, 0, net.r * net.n - 1)) {
            return BAD;
        }
        int[] call = net.callOf(a);
        net.calls.remove(call);
        return ok(call == null ? NONE : call[1]);
    }

    private long line(int place, int a, int what) {
        if (out(place, 0, 5) || out(what, 0, 1)) {
            return BAD;
        }
        if (!nets.containsKey(place)) {
            return find(NULL);
        }
        ModelNet net = nets.get(place);
        if (out(a, 0, net.r * net.n - 1)) {
            return BAD;
        }
        int[] call = net.callOf(a);
        return ok(call == null ? NONE : call[1 + what]);
    }

    private long free(int place, int a, int b, int what) {
        if (out(place, 0, 5) || out(what, 0, 1)) {
            return BAD;
        }
        if (!nets.containsKey(place)) {
            return find(NULL);
        }
        ModelNet net = nets.get(place);
        if (out(a, 0, net.r * net.n - 1) || out(b, 0, net.r * net.n - 1)) {
            return BAD;
        }
        if (net.busy(a, b)) {
            return STATE;
        }
        return ok(what == 0 ? net.free(a, b).size() : net.twin().setUp(a, b, true));
    }

    private long die(int place, int middle) {
        if (out(place, 0, 5)) {
            return BAD;
        }
        if (!nets.containsKey(place)) {
            return find(NULL);
        }
        ModelNet net = nets.get(place);
        if (out(middle, 0, net.m - 1)) {
            return BAD;
        }
        return net.dead.contains(middle) ? STATE : ok(net.die(middle));
    }

    private long mend(int place, int middle) {
        if (out(place, 0, 5)) {
            return BAD;
        }
        if (!nets.containsKey(place)) {
            return find(NULL);
        }
        ModelNet net = nets.get(place);
        if (out(middle, 0, net.m - 1)) {
            return BAD;
        }
        return ok(net.dead.remove(middle) ? 1 : 0);
    }

    private long bit(int k, int sheet, int i, int stage, int j) {
        if (out(sheet, 0, 7) || out(k, 1, 4) || out(stage, 0, 2 * k - 2) || out(j, 0, (1 << k) / 2 - 1)) {
            return BAD;
        }
        if (!sheets.containsKey(sheet)) {
            return find(NULL);
        }
        long[] items = sheets.get(sheet);
        int lines = 1 << k;
        if (i < 0 || (long) i + lines > items.length) {
            return find(PLACE);
        }
        long[] sorted = Arrays.copyOfRange(items, i, i + lines);
        Arrays.sort(sorted);
        int[] order = new int[lines];
        for (int each = 0; each < lines; each++) {
            if (sorted[each] != each) {
                return BAD;
            }
            order[each] = (int) items[i + each];
        }
        return ok(bits(order)[stage][j]);
    }

    /** Stage by stage, made of the bits of two halves that are switches of their own. */
    static int[][] bits(int[] order) {
        int lines = order.length;
        if (lines == 2) {
            return new int[][] {{order[0]}};
        }
        List<Integer> list = new ArrayList<>();
        for (int o : order) {
            list.add(o);
        }
        Boolean[] upper = new Boolean[lines];
        for (int led = 0; led < lines; led += 2) {
            int start = Arrays.asList(upper).indexOf(null);
            int in = start;
            do {
                upper[in] = true;
                int lower = list.indexOf(order[in] % 2 == 0 ? order[in] + 1 : order[in] - 1);
                upper[lower] = false;
                in = lower % 2 == 0 ? lower + 1 : lower - 1;
            } while (in != start);
            if (!Arrays.asList(upper).contains(null)) {
                break;
            }
        }
        int[] up = new int[lines / 2];
        int[] low = new int[lines / 2];
        int[] first = new int[lines / 2];
        int[] last = new int[lines / 2];
        for (int a = 0; a < lines; a++) {
            (upper[a] ? up : low)[a / 2] = order[a] / 2;
            if (upper[a]) {
                first[a / 2] = a % 2;
                last[order[a] / 2] = order[a] % 2;
            }
        }
        int[][] upBits = bits(up);
        int[][] lowBits = bits(low);
        int[][] all = new int[upBits.length + 2][];
        all[0] = first;
        all[all.length - 1] = last;
        for (int stage = 0; stage < upBits.length; stage++) {
            all[stage + 1] = join(upBits[stage], lowBits[stage]);
        }
        return all;
    }

    private static int[] join(int[] a, int[] b) {
        int[] both = Arrays.copyOf(a, a.length + b.length);
        System.arraycopy(b, 0, both, a.length, b.length);
        return both;
    }

    private long goes(int k, int sheet, int i, int x) {
        if (out(sheet, 0, 7) || out(k, 1, 4) || out(x, 0, (1 << k) - 1)) {
            return BAD;
        }
        if (!sheets.containsKey(sheet)) {
            return find(NULL);
        }
        long[] items = sheets.get(sheet);
        int each = (1 << k) / 2;
        int stages = 2 * k - 1;
        if (i < 0 || (long) i + stages * each > items.length) {
            return find(PLACE);
        }
        boolean[][] crossed = new boolean[stages][each];
        for (int number = 0; number < stages * each; number++) {
            crossed[number / each][number % each] = items[i + number] != 0;
        }
        return ok(goes(crossed, 0, stages - 1, 0, each, x));
    }

    /** Through the switch whose stages are first to last and whose switches in each are each, from one on. */
    private static int goes(boolean[][] crossed, int first, int last, int from, int each, int x) {
        boolean turned = crossed[first][from + x / 2];
        int port = turned ? 1 - x % 2 : x % 2;
        if (first == last) {
            return port;
        }
        int back = goes(crossed, first + 1, last - 1, from + port * each / 2, each / 2, x / 2);
        boolean turnedBack = crossed[last][from + back];
        return 2 * back + (turnedBack ? 1 - port : port);
    }

    private long demand(int sheet, int i, int s, int part, int j) {
        if (out(sheet, 0, 7) || out(s, 1, 6) || out(j, -1, s - 1)) {
            return BAD;
        }
        if (!sheets.containsKey(sheet)) {
            return find(NULL);
        }
        long[] items = sheets.get(sheet);
        if (i < 0 || (long) i + s * s > items.length) {
            return find(PLACE);
        }
        long[][] table = new long[s][];
        long[] columns = new long[s];
        long[] rows = new long[s];
        for (int row = 0; row < s; row++) {
            table[row] = Arrays.copyOfRange(items, i + row * s, i + row * s + s);
            for (int column = 0; column < s; column++) {
                if (table[row][column] < 0 || table[row][column] > 1000) {
                    return BAD;
                }
                columns[column] += table[row][column];
                rows[row] += table[row][column];
            }
        }
        for (int each = 0; each < s; each++) {
            if (rows[each] != rows[0] || columns[each] != rows[0]) {
                return BAD;
            }
        }
        List<int[]> parts = parts(table, rows[0]);
        if (part == NONE) {
            return ok(parts.size());
        }
        if (part < 0 || part >= parts.size()) {
            return ok(NONE);
        }
        return ok(parts.get(part)[j == -1 ? s : j]);
    }

    /** Each PART is its ORDER, with how often behind it. */
    private static List<int[]> parts(long[][] table, long sum) {
        List<int[]> parts = new ArrayList<>();
        List<int[]> orders = new ArrayList<>();
        addOrders(orders, new int[0], table.length);
        long left = sum;
        for (int[] order : orders) {
            long often = Long.MAX_VALUE;
            for (int row = 0; row < order.length; row++) {
                often = Math.min(often, table[row][order[row]]);
            }
            if (often > 0) {
                for (int row = 0; row < order.length; row++) {
                    table[row][order[row]] -= often;
                }
                int[] part = Arrays.copyOf(order, order.length + 1);
                part[order.length] = (int) often;
                parts.add(part);
                left -= often;
            }
        }
        if (left != 0) {
            throw new IllegalStateException("a demand is left over");
        }
        return parts;
    }

    /** All ORDERS, the least first: an ORDER that is used up never serves again. */
    private static void addOrders(List<int[]> orders, int[] begun, int s) {
        if (begun.length == s) {
            orders.add(begun);
            return;
        }
        for (int column = 0; column < s; column++) {
            int wanted = column;
            if (Arrays.stream(begun).noneMatch(o -> o == wanted)) {
                int[] longer = Arrays.copyOf(begun, begun.length + 1);
                longer[begun.length] = column;
                addOrders(orders, longer, s);
            }
        }
    }

    private static long cross(int lines, int levels, int law) {
        List<Long> ways = new ArrayList<>();
        ways.add((long) lines * lines);
        for (int n = 2; levels > 0 && n < lines; n++) {
            if (lines / n * n == lines) {
                long m = law == 0 ? n : 2L * n - 1;
                ways.add(2L * lines * m + m * cross(lines / n, levels - 1, law));
            }
        }
        return ways.stream().min(Long::compare).get();
    }

    private static long shut(int m, int t) {
        return m == 0 ? 1 : shut(m - 1, t) * (100 - (10 - t) * (10 - t));
    }

    private long count(int what) {
        if (what == 0) {
            return sheets.size();
        }
        if (what == 5) {
            return nets.values().stream().mapToInt(net -> net.calls.size()).sum();
        }
        return out(what, 0, 5) ? BAD
            : nets.values().stream().filter(net -> kindsOf(net.kind()).contains(what - 1)).count();
    }
}
