/** Promises 19 and 20: bit, goes. */
public final class LinesInPowersTest {
    private static final int BAD = StageSwitch.BAD;
    private static final int NULL = -1000011, PLACE = -1000012;

    public static void main(String[] args) {
        promise19OneSwitch();
        promise19ByHand();
        promise19WrongNumbers();
        promise19NoOrder();
        promise20ByHand();
        promise20OtherItemsCross();
        promise20WrongNumbers();
        everyOrderIsLed();
        Due.finish();
    }

    private static void promise19OneSwitch() {
        StageSwitch x = Due.withItems(0, 1, 0);
        Due.due(x, "straight", x.bit(1, 0, 0, 0, 0), 0, 0);
        Due.due(x, "crossed", x.bit(1, 0, 1, 0, 0), 1, 0);
    }

    private static void promise19ByHand() {
        // Round of 0: 0 upper, goes to 1; 0 comes from 2, lower; 3 upper, goes to 3; 2 comes from 1, lower.
        StageSwitch x = Due.withItems(9, 1, 2, 0, 3);
        int[][] due = {{0, 1}, {0, 1}, {1, 1}};
        for (int stage = 0; stage < 3; stage++) {
            for (int j = 0; j < 2; j++) {
                Due.due("bit(2, 0, 1, " + stage + ", " + j + ")", x.bit(2, 0, 1, stage, j), due[stage][j]);
            }
        }
        // Straight through: two rounds, each begun by the upper half.
        Due.fill(x, 0, 0, 1, 2, 3);
        for (int stage = 0; stage < 3; stage++) {
            Due.due("straight, stage " + stage, x.bit(2, 0, 0, stage, 0) + x.bit(2, 0, 0, stage, 1), 0);
        }
    }

    private static void promise19WrongNumbers() {
        StageSwitch x = Due.withItems(0, 1, 2, 3);
        Due.due("SHEET -1", x.bit(1, -1, 0, 0, 0), BAD);
        Due.due("SHEET 8", x.bit(1, 8, 0, 0, 0), BAD);
        Due.due("k 0", x.bit(0, 0, 0, 0, 0), BAD);
        Due.due("k 5", x.bit(5, 0, 0, 0, 0), BAD);
        Due.due("k MIN", x.bit(Integer.MIN_VALUE, 0, 0, 0, 0), BAD);
        Due.due("k 33", x.bit(33, 0, 0, 0, 0), BAD);
        Due.due("stage -1", x.bit(2, 0, 0, -1, 0), BAD);
        Due.due("stage 3", x.bit(2, 0, 0, 3, 0), BAD);
        Due.due("j -1", x.bit(2, 0, 0, 0, -1), BAD);
        Due.due("j 2", x.bit(2, 0, 0, 0, 2), BAD);
        Due.due("BAD ahead of NULL", x.bit(2, 1, 0, 0, 2), BAD);
        Due.due("status() after BAD", x.status(), 0);
        Due.due(x, "NULL ahead of PLACE", x.bit(2, 1, -1, 0, 0), NULL, 1);
        Due.due(x, "i -1", x.bit(2, 0, -1, 0, 0), PLACE, 2);
        Due.due("i 1", x.bit(2, 0, 1, 0, 0), PLACE);
        Due.due("i MAX", x.bit(2, 0, Integer.MAX_VALUE, 0, 0), PLACE);
        Due.due("i MIN", x.bit(2, 0, Integer.MIN_VALUE, 0, 0), PLACE);
        Due.due("k 3 of four ITEMS", x.bit(3, 0, 0, 0, 0), PLACE);
    }

    private static void promise19NoOrder() {
        int[][] none = {{0, 1, 2, 2}, {0, 1, 2, 4}, {-1, 1, 2, 3}, {32, 1, 2, 3}, {0, 1, 2, Integer.MIN_VALUE}};
        for (int[] items : none) {
            StageSwitch x = Due.withItems(items);
            x.drop(5);
            Due.due(x, "no ORDER", x.bit(2, 0, 0, 0, 0), BAD, 1);
        }
    }

    private static void promise20ByHand() {
        StageSwitch x = Due.withItems(9, 0, 1, 0, 1, 1, 1, 0);
        int[] due = {1, 2, 0, 3};
        for (int line = 0; line < 4; line++) {
            Due.due(x, "goes(2, 0, 1, " + line + ")", x.goes(2, 0, 1, line), due[line], 0);
        }
        Due.due("k 1, straight", x.goes(1, 0, 1, 1), 1);
        Due.due("k 1, crossed", x.goes(1, 0, 2, 1), 0);
    }

    private static void promise20OtherItemsCross() {
        StageSwitch x = Due.withItems(2, -1, Integer.MIN_VALUE, 256);
        for (int i = 0; i < 4; i++) {
            Due.due("crossed by ITEM " + i, x.goes(1, 0, i, 0), 1);
        }
    }

    private static void promise20WrongNumbers() {
        StageSwitch x = Due.withItems(0, 0, 0, 0, 0, 0);
        Due.due("SHEET -1", x.goes(2, -1, 0, 0), BAD);
        Due.due("SHEET 8", x.goes(2, 8, 0, 0), BAD);
        Due.due("k 0", x.goes(0, 0, 0, 0), BAD);
        Due.due("k 5", x.goes(5, 0, 0, 0), BAD);
        Due.due("k 32", x.goes(32, 0, 0, 0), BAD);
        Due.due("LINE -1", x.goes(2, 0, 0, -1), BAD);
        Due.due("LINE 4: BAD ahead of NULL", x.goes(2, 1, 0, 4), BAD);
        Due.due("status() after BAD", x.status(), 0);
        Due.due(x, "NULL ahead of PLACE", x.goes(2, 1, -1, 0), NULL, 1);
        Due.due(x, "i -1", x.goes(2, 0, -1, 0), PLACE, 2);
        Due.due("i 1", x.goes(2, 0, 1, 0), PLACE);
        Due.due("i MAX", x.goes(2, 0, Integer.MAX_VALUE, 0), PLACE);
        Due.due(x, "just enough", x.goes(2, 0, 0, 3), 3, 0);
        x.sheet(1, 0, 55);
        Due.due("one too few for k 4", x.goes(4, 1, 0, 0), PLACE);
        x.sheet(1, 0, 56);
        Due.due("enough for k 4", x.goes(4, 1, 0, 15), 15);
    }

    /** The BITS of an ORDER lead by it: all of two and of four LINES, some of eight and of sixteen. */
    private static void everyOrderIsLed() {
        int[] most = {0, 2, 24, 300, 60};
        for (int k = 1; k <= 4; k++) {
            for (int number = 0; number < most[k]; number++) {
                isLed(k, order(1 << k, k < 3 ? number : number * 7919L * 104729L));
            }
        }
    }

    /** The ORDER of this number: each LINE takes one of those that are left. */
    private static int[] order(int lines, long number) {
        java.util.List<Integer> left = new java.util.ArrayList<>();
        for (int out = 0; out < lines; out++) {
            left.add(out);
        }
        int[] order = new int[lines];
        long rest = number;
        for (int line = 0; line < lines; line++) {
            order[line] = left.remove((int) (rest % left.size()));
            rest /= lines - line;
        }
        return order;
    }

    private static void isLed(int k, int[] order) {
        StageSwitch x = Due.withItems(order);
        int each = 1 << (k - 1);
        x.sheet(1, 0, (2 * k - 1) * each);
        for (int i = 0; i < (2 * k - 1) * each; i++) {
            x.set(1, i, x.bit(k, 0, 0, i / each, i % each));
        }
        for (int line = 0; line < order.length; line++) {
            Due.due("LINE " + line + " of " + java.util.Arrays.toString(order), x.goes(k, 1, 0, line), order[line]);
        }
        if (k > 1) {
            Due.due("LINE 0 goes by the upper half", x.bit(k, 0, 0, 0, 0), 0);
        }
    }
}
