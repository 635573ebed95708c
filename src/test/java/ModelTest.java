/**
 * Runs of 512 calls with numbers that are mostly, not always, as told: each answer, and the status
 * behind it, is that of the Model. The numbers come from a fixed row, so that each run is the same.
 */
public final class ModelTest {
    private static final int RUNS = 300, CALLS = 512;
    private static final int[] FAR = {Integer.MIN_VALUE, Integer.MIN_VALUE + 1, -1000000, -2, -1, 64, 65, 100,
        1000000, Integer.MAX_VALUE - 1, Integer.MAX_VALUE};

    private static long seed = 20261118;

    public static void main(String[] args) {
        for (int run = 0; run < RUNS; run++) {
            if (run % 3 == 0) {
                netRun(run);
            } else if (run % 3 == 1) {
                sheetRun(run);
            } else {
                mixedRun(run);
            }
        }
        everyCost();
        Due.finish();
    }

    private static int below(int bound) {
        seed = seed * 6364136223846793005L + 1442695040888963407L;
        return (int) ((seed >>> 33) % bound);
    }

    /** A number from 0 to most, but now and then one that is just beyond, or far from it. */
    private static int number(int most) {
        int kind = below(60);
        return kind == 0 ? FAR[below(FAR.length)] : kind == 1 ? most + 1 : kind == 2 ? -1 : below(most + 1);
    }

    private static void both(int run, StageSwitch x, Model model, int which, int... p) {
        Due.asModel("run " + run + ": ", x, model, which, p);
    }

    /** One NET, full most of the time, whose middle ones die and are mended; now and then all its LINES. */
    private static void netRun(int run) {
        StageSwitch x = new StageSwitch();
        Model model = new Model();
        int n = 1 + below(6);
        int r = 1 + below(6);
        int m = Math.min(12, 1 + below(n + 3));
        both(run, x, model, 4, 0, m, n, r);
        for (int each = 1; each < CALLS; each++) {
            int line = number(n * r - 1);
            int out = number(n * r - 1);
            int pick = below(100);
            if (pick < 45) {
                both(run, x, model, 11, 0, line, out, below(5) == 0 ? 0 : 1);
            } else if (pick < 60) {
                both(run, x, model, 14, 0, line, out, below(2));
            } else if (pick < 73) {
                both(run, x, model, 12, 0, line);
            } else if (pick < 88) {
                both(run, x, model, 13, 0, line, below(2));
            } else if (pick < 90) {
                both(run, x, model, 15, 0, number(m - 1));
            } else if (pick < 94) {
                both(run, x, model, 16, 0, number(m - 1));
            } else if (pick < 97) {
                both(run, x, model, 9, 0, below(2));
            } else {
                both(run, x, model, pick == 97 ? 6 : pick == 98 ? 8 : 7, 0, below(4));
            }
        }
        for (int line = 0; line < n * r; line++) {
            both(run, x, model, 13, 0, line, 0);
            both(run, x, model, 13, 0, line, 1);
        }
    }

    /** ORDERS, BITS and DEMANDS on SHEETS. */
    private static void sheetRun(int run) {
        StageSwitch x = new StageSwitch();
        Model model = new Model();
        int k = 1 + below(4);
        int lines = 1 << k;
        int from = below(4);
        both(run, x, model, 0, 0, below(3), 64);
        int[] order = order(lines);
        for (int each = 0; each < lines; each++) {
            both(run, x, model, 1, 0, from + each, order[each]);
        }
        for (int stage = 0; stage < 2 * k - 1; stage++) {
            for (int j = 0; j < lines / 2; j++) {
                both(run, x, model, 17, k, 0, from, stage, j);
            }
        }
        both(run, x, model, 0, 1, below(3), 64);
        for (int each = 0; each < 56; each++) {
            both(run, x, model, 1, 1, each, below(2) * (below(5) - 2));
        }
        for (int line = 0; line < lines; line++) {
            both(run, x, model, 18, k, 1, below(12), line);
        }
        demands(run, x, model);
    }

    /** A sum of ORDERS, each so often, is a DEMAND; now and then one number is off. */
    private static void demands(int run, StageSwitch x, Model model) {
        int s = 1 + below(6);
        int[] table = new int[s * s];
        int orders = below(s * s + 2);
        for (int each = 0; each < orders; each++) {
            int[] order = order(s);
            int often = 1 + below(each == 0 ? 300 : 20);
            for (int row = 0; row < s; row++) {
                table[row * s + order[row]] += often;
            }
        }
        if (below(8) == 0) {
            table[below(s * s)] += below(3) - 1;
        }
        int from = below(64 - s * s);
        both(run, x, model, 0, 2, 1 + below(2), 64);
        for (int each = 0; each < s * s; each++) {
            both(run, x, model, 1, 2, from + each, table[each]);
        }
        both(run, x, model, 19, 2, from, s, StageSwitch.NONE, number(s - 1));
        for (int each = 0; each < 40; each++) {
            both(run, x, model, 19, 2, from, s, number(orders), below(s + 1) - 1);
        }
    }

    private static int[] order(int lines) {
        int[] order = new int[lines];
        for (int each = 0; each < lines; each++) {
            int other = below(each + 1);
            order[each] = order[other];
            order[other] = each;
        }
        return order;
    }

    /** All of the face, with several SHEETS and NETS. */
    private static void mixedRun(int run) {
        StageSwitch x = new StageSwitch();
        Model model = new Model();
        for (int each = 0; each < CALLS; each++) {
            int which = below(Calls.NAMES.size() - 1);
            both(run, x, model, which, arguments(which));
        }
    }

    private static int[] arguments(int which) {
        int place = number(5);
        int sheet = number(7);
        switch (which) {
            case 0: return new int[] {sheet, number(2), number(64)};
            case 1: return new int[] {sheet, number(63), below(3) == 0 ? FAR[below(FAR.length)] : number(70000)};
            case 2: return new int[] {sheet, number(20), number(7), number(20), number(20)};
            case 3:
                return new int[] {below(4) == 0 ? sheet : -1};
            case 4: return new int[] {place, 1 + number(11), 1 + number(5), 1 + number(5)};
            case 5: return new int[] {below(4) == 0 ? place : 6};
            case 6: return new int[] {place};
            case 7:
            case 8: return new int[] {place, number(3)};
            case 9: return new int[] {place, number(1)};
            case 10: return new int[] {number(5)};
            case 11:
            case 14: return new int[] {place, number(12), number(12), number(1)};
            case 12: return new int[] {place, number(12)};
            case 13: return new int[] {place, number(12), number(1)};
            case 15:
            case 16: return new int[] {place, number(5)};
            case 17: return new int[] {1 + number(3), sheet, number(20), number(6), number(7)};
            case 18: return new int[] {1 + number(3), sheet, number(20), number(15)};
            case 19: return new int[] {sheet, number(20), 1 + number(5), below(3) == 0 ? -1000000 : number(3), number(6) - 1};
            case 20: return new int[] {1 + number(63), number(2), number(1)};
            case 21: return new int[] {1 + number(8), number(10)};
            default: return new int[] {number(5)};
        }
    }

    private static void everyCost() {
        StageSwitch x = new StageSwitch();
        Model model = new Model();
        for (int lines = 0; lines <= 65; lines++) {
            for (int levels = -1; levels <= 3; levels++) {
                for (int law = -1; law <= 2; law++) {
                    both(-1, x, model, 20, lines, levels, law);
                }
            }
        }
        for (int m = 0; m <= 10; m++) {
            for (int t = -1; t <= 11; t++) {
                both(-1, x, model, 21, m, t);
            }
        }
    }
}
