import java.util.ArrayList;
import java.util.List;
import java.util.TreeSet;

/** A NET whose CALLS are a plain list of LINE in, LINE out, middle one. */
final class ModelNet {
    final int m;
    final int n;
    final int r;
    final List<int[]> calls = new ArrayList<>();
    final TreeSet<Integer> dead = new TreeSet<>();

    ModelNet(int m, int n, int r) {
        this.m = m;
        this.n = n;
        this.r = r;
    }

    ModelNet twin() {
        ModelNet twin = new ModelNet(m, n, r);
        for (int[] call : calls) {
            twin.calls.add(call.clone());
        }
        twin.dead.addAll(dead);
        return twin;
    }

    List<Integer> living() {
        List<Integer> living = new ArrayList<>();
        for (int middle = 0; middle < m; middle++) {
            if (!dead.contains(middle)) {
                living.add(middle);
            }
        }
        return living;
    }

    int kind() {
        int living = living().size();
        return living >= 2 * n - 1 ? 2 : living >= n ? 1 : living == 1 ? 3 : 0;
    }

    int[] callOf(int a) {
        for (int[] call : calls) {
            if (call[0] == a) {
                return call;
            }
        }
        return null;
    }

    boolean busy(int a, int b) {
        for (int[] call : calls) {
            if (call[0] == a || call[1] == b) {
                return true;
            }
        }
        return false;
    }

    private int[] from(int first, int middle) {
        for (int[] call : calls) {
            if (call[0] / n == first && call[2] == middle) {
                return call;
            }
        }
        return null;
    }

    private int[] to(int last, int middle) {
        for (int[] call : calls) {
            if (call[1] / n == last && call[2] == middle) {
                return call;
            }
        }
        return null;
    }

    List<Integer> free(int a, int b) {
        List<Integer> free = new ArrayList<>();
        for (int middle : living()) {
            if (from(a / n, middle) == null && to(b / n, middle) == null) {
                free.add(middle);
            }
        }
        return free;
    }

    int setUp(int a, int b, boolean moving) {
        List<Integer> free = free(a, b);
        if (!free.isEmpty()) {
            calls.add(new int[] {a, b, free.get(0)});
            return 0;
        }
        List<int[]> best = null;
        int bestX = 0;
        int bestY = 0;
        for (int x : living()) {
            for (int y : living()) {
                if (from(a / n, x) == null && to(b / n, y) == null) {
                    List<int[]> chain = chain(b / n, x, y);
                    if (best == null || chain.size() < best.size()) {
                        best = chain;
                        bestX = x;
                        bestY = y;
                    }
                }
            }
        }
        if (!moving || best == null) {
            return Model.NONE;
        }
        for (int[] call : best) {
            call[2] = bestX + bestY - call[2];
        }
        calls.add(new int[] {a, b, bestX});
        check();
        return best.size();
    }

    private List<int[]> chain(int last, int x, int y) {
        List<int[]> chain = new ArrayList<>();
        int[] call = to(last, x);
        while (call != null) {
            chain.add(call);
            call = call[2] == x ? from(call[0] / n, y) : to(call[1] / n, x);
        }
        return chain;
    }

    int die(int middle) {
        List<int[]> shed = new ArrayList<>();
        for (int a = 0; a < n * r; a++) {
            int[] call = callOf(a);
            if (call != null && call[2] == middle) {
                shed.add(call);
            }
        }
        calls.removeAll(shed);
        dead.add(middle);
        int lost = 0;
        for (int[] call : shed) {
            lost += setUp(call[0], call[1], true) == Model.NONE ? 1 : 0;
        }
        return lost;
    }

    /** No two CALLS have one link. */
    private void check() {
        TreeSet<Integer> links = new TreeSet<>();
        for (int[] call : calls) {
            if (!links.add(call[2] * 100 + call[0] / n) || !links.add(call[2] * 100 + 50 + call[1] / n)) {
                throw new IllegalStateException("two CALLS by one link");
            }
        }
    }
}
