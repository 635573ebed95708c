/** Promises 21 to 24: demand, cross, shut, count. */
public final class CostTest {
    private static final int BAD = StageSwitch.BAD, NONE = StageSwitch.NONE;
    private static final int NULL = -1000011, PLACE = -1000012;

    public static void main(String[] args) {
        promise21Demand();
        promise21TakesTheLeastOrderFirst();
        promise21AllZero();
        promise21AllTheSame();
        promise21WrongNumbers();
        promise21NoDemand();
        promise22Cross();
        promise22WrongNumbers();
        promise23Shut();
        promise23WrongNumbers();
        promise24Count();
        Due.finish();
    }

    private static void promise21Demand() {
        StageSwitch x = Due.withItems(7, 2, 1, 0, 0, 2, 1, 1, 0, 2);
        dueParts(x, 1, 3, new int[][] {{0, 1, 2, 2}, {1, 2, 0, 1}});
        Due.due(x, "how many", x.demand(0, 1, 3, NONE, 2), 2, 0);
        Due.due(x, "not so many", x.demand(0, 1, 3, 2, 0), NONE, 0);
        Due.due("a part below 0", x.demand(0, 1, 3, -1, 0), NONE);
        Due.due("a part just above NONE", x.demand(0, 1, 3, NONE + 1, 0), NONE);
        Due.due("a part far below", x.demand(0, 1, 3, Integer.MIN_VALUE, -1), NONE);
        Due.due("a part far above", x.demand(0, 1, 3, Integer.MAX_VALUE, -1), NONE);
        StageSwitch one = Due.withItems(1000);
        dueParts(one, 0, 1, new int[][] {{0, 1000}});
    }

    /** Row 0's least column leaves the other rows none at first, and the same ORDER never comes twice. */
    private static void promise21TakesTheLeastOrderFirst() {
        StageSwitch x = Due.withItems(
            1, 1, 1,
            0, 1, 2,
            2, 1, 0);
        dueParts(x, 0, 3, new int[][] {{0, 2, 1, 1}, {1, 2, 0, 1}, {2, 1, 0, 1}});
        Due.fill(x, 0, 1, 1, 0, 1, 0, 1, 0, 1, 1);
        dueParts(x, 0, 3, new int[][] {{0, 2, 1, 1}, {1, 0, 2, 1}});
    }

    private static void promise21AllZero() {
        StageSwitch x = new StageSwitch();
        x.sheet(0, 0, 36);
        for (int s = 1; s <= 6; s++) {
            Due.due("no PARTS of " + s, x.demand(0, 36 - s * s, s, NONE, -1), 0);
            Due.due("none", x.demand(0, 36 - s * s, s, 0, 0), NONE);
        }
    }

    /** After 0 1 2 3 4 5 and 1 0 3 2 5 4, 2 3 0 1 would leave the last two rows none: it is 2 3 4 5 0 1. */
    private static void promise21AllTheSame() {
        int[] table = new int[36];
        java.util.Arrays.fill(table, 1000);
        StageSwitch x = Due.withItems(table);
        Due.due("all the same", x.demand(0, 0, 6, NONE, 0), 6);
        int[] last = {5, 4, 1, 0, 3, 2};
        for (int j = 0; j < 6; j++) {
            Due.due("part 0, o(" + j + ")", x.demand(0, 0, 6, 0, j), j);
            Due.due("part 5, o(" + j + ")", x.demand(0, 0, 6, 5, j), last[j]);
        }
        Due.due("part 5, how often", x.demand(0, 0, 6, 5, -1), 1000);
    }

    private static void promise21WrongNumbers() {
        StageSwitch x = Due.withItems(1, 0, 0, 1);
        Due.due("SHEET -1", x.demand(-1, 0, 2, 0, 0), BAD);
        Due.due("SHEET 8", x.demand(8, 0, 2, 0, 0), BAD);
        Due.due("s 0", x.demand(0, 0, 0, 0, -1), BAD);
        Due.due("s 7", x.demand(0, 0, 7, 0, 0), BAD);
        Due.due("s -1", x.demand(0, 0, -1, 0, -1), BAD);
        Due.due("j -2", x.demand(0, 0, 2, 0, -2), BAD);
        Due.due("j 2", x.demand(0, 0, 2, 0, 2), BAD);
        Due.due("j 2, of how many", x.demand(0, 0, 2, NONE, 2), BAD);
        Due.due("BAD ahead of NULL", x.demand(1, 0, 2, 0, 2), BAD);
        Due.due("status() after BAD", x.status(), 0);
        Due.due(x, "NULL ahead of PLACE", x.demand(1, -1, 2, 0, 0), NULL, 1);
        Due.due(x, "i -1", x.demand(0, -1, 2, 0, 0), PLACE, 2);
        Due.due("i 1", x.demand(0, 1, 2, 0, 0), PLACE);
        Due.due("i MAX", x.demand(0, Integer.MAX_VALUE, 2, 0, 0), PLACE);
        Due.due("s 3 of four ITEMS", x.demand(0, 0, 3, 0, 0), PLACE);
    }

    private static void promise21NoDemand() {
        int[][] none = {{1, 0, 0, 2}, {1, 1, 0, 0}, {1, 0, 1, 0}, {2, -1, -1, 2}, {1001, 0, 0, 1001},
            {0, 1, 1, 1}, {Integer.MIN_VALUE, 0, 0, Integer.MIN_VALUE}};
        for (int[] items : none) {
            StageSwitch x = Due.withItems(items);
            x.drop(5);
            Due.due(x, "no DEMAND, how many", x.demand(0, 0, 2, NONE, 0), BAD, 1);
            Due.due(x, "no DEMAND, part 0", x.demand(0, 0, 2, 0, 0), BAD, 1);
            Due.due(x, "no DEMAND, part -1", x.demand(0, 0, 2, -1, 0), BAD, 1);
        }
    }

    private static void promise22Cross() {
        StageSwitch x = new StageSwitch();
        x.drop(0);
        Due.due(x, "cross(64, 0, 1)", x.cross(64, 0, 1), 4096, 1);
        Due.due("cross(7, 2, 0): nothing divides 7", x.cross(7, 2, 0), 49);
        Due.due("cross(6, 1, 0): by n 2, r 3", x.cross(6, 1, 0), 36);
        Due.due("cross(9, 1, 0): by n 3, r 3", x.cross(9, 1, 0), 54 + 27);
        Due.due("cross(10, 1, 0): by n 2, r 5", x.cross(10, 1, 0), 40 + 50);
        Due.due("cross(36, 1, 1)", x.cross(36, 1, 1), 1071);
        Due.due("cross(64, 2, 0)", x.cross(64, 2, 0), 1280);
        Due.due("cross(64, 2, 1)", x.cross(64, 2, 1), 2688);
    }

    private static void promise22WrongNumbers() {
        StageSwitch x = new StageSwitch();
        int[][] wrong = {{0, 0, 0}, {65, 0, 0}, {-1, 0, 0}, {1, -1, 0}, {1, 3, 0}, {1, 0, -1}, {1, 0, 2},
            {Integer.MAX_VALUE, 2, 1}, {Integer.MIN_VALUE, 0, 0}};
        for (int[] w : wrong) {
            Due.due("a wrong cross", x.cross(w[0], w[1], w[2]), BAD);
        }
    }

    private static void promise23Shut() {
        StageSwitch x = new StageSwitch();
        x.drop(0);
        Due.due(x, "shut(1, 0)", x.shut(1, 0), 0, 1);
        Due.due("shut(9, 0)", x.shut(9, 0), 0);
        Due.due("shut(1, 10)", x.shut(1, 10), 100);
        Due.due("shut(1, 3)", x.shut(1, 3), 51);
        Due.due("shut(3, 5)", x.shut(3, 5), 75 * 75 * 75);
        Due.due("shut(5, 9)", x.shut(5, 9), 9509900499L);
        Due.due("shut(9, 10)", x.shut(9, 10), 1000000000000000000L);
    }

    private static void promise23WrongNumbers() {
        StageSwitch x = new StageSwitch();
        int[][] wrong = {{0, 1}, {10, 1}, {-1, 1}, {1, -1}, {1, 11},
            {Integer.MAX_VALUE, 1}, {1, Integer.MIN_VALUE}};
        for (int[] w : wrong) {
            Due.due("a wrong shut", x.shut(w[0], w[1]), -1000001L);
        }
    }

    private static void promise24Count() {
        StageSwitch x = Due.withItems(1);
        x.sheet(6, 1, 0);
        x.net(0, 2, 2, 2);
        x.net(1, 3, 2, 2);
        x.net(2, 4, 2, 2);
        x.net(3, 1, 2, 2);
        x.net(4, 2, 3, 2);
        x.call(1, 0, 0, 0);
        x.call(1, 1, 1, 0);
        x.call(4, 5, 5, 0);
        x.drop(5);
        int[] due = {2, 5, 3, 2, 1, 3};
        for (int what = 0; what < 6; what++) {
            Due.due(x, "count(" + what + ")", x.count(what), due[what], 1);
        }
        x.die(0, 0);
        x.die(1, 0);
        x.clear(4);
        int[] later = {2, 4, 2, 1, 2, 2};
        for (int what = 0; what < 6; what++) {
            Due.due("count(" + what + ") later", x.count(what), later[what]);
        }
        Due.due("count(-1)", x.count(-1), BAD);
        Due.due("count(6)", x.count(6), BAD);
        Due.due("count(MIN)", x.count(Integer.MIN_VALUE), BAD);
    }

    /** Each PART's ORDER, and how often behind it. */
    private static void dueParts(StageSwitch x, int i, int s, int[][] parts) {
        Due.due("how many PARTS", x.demand(0, i, s, NONE, 0), parts.length);
        for (int part = 0; part < parts.length; part++) {
            for (int j = 0; j < s; j++) {
                Due.due("part " + part + ", o(" + j + ")", x.demand(0, i, s, part, j), parts[part][j]);
            }
            Due.due("part " + part + ", how often", x.demand(0, i, s, part, -1), parts[part][s]);
        }
        Due.due("behind the last PART", x.demand(0, i, s, parts.length, -1), NONE);
    }
}
