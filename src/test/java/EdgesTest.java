import java.util.ArrayList;
import java.util.List;

/**
 * Each call of the face with every mixture of numbers at its edges, just beyond them and as far beyond
 * as there are: the answer, and the status behind it, is that of the Model. As the calls change what is
 * there, each of the states is made anew again and again.
 */
public final class EdgesTest {
    /** Each call with the most that each of its numbers may be. */
    private static final String[] MOST = {"sheet 7 2 64", "set 7 63 127", "copy 7 63 7 63 64", "drop 7", "net 5 12 6 6",
        "clear 5", "kind 5", "is 5 3", "as 5 3", "ask 5 1", "trace 15", "call 5 35 35 1", "end 5 35", "line 5 35 1",
        "free 5 35 35 1", "die 5 11", "mend 5 11", "bit 4 7 63 6 7", "goes 4 7 63 15", "demand 7 63 6 NONE 5",
        "cross 64 2 1", "shut 9 10", "count 5", "status"};
    private static final String[] STATES = {
        "status",
        "sheet 0 2 64; set 0 1 1; sheet 1 2 2; set 1 0 1; sheet 7 0 64; net 0 12 6 6; call 0 0 0 1; call 0 35 1 0;"
            + "net 1 1 1 1; call 1 0 0 0; net 5 2 6 6; call 5 1 35 0; call 5 0 34 0; die 5 1; ask 0 0; set 1 9 0",
        "sheet 0 0 0; sheet 1 0 2; set 1 1 1; sheet 7 1 63; net 0 1 1 1; die 0 0; net 1 2 2 2; call 1 0 2 0;"
            + "call 1 1 0 0; end 1 0; call 1 2 3 0; net 5 12 6 6; die 5 11; call 5 35 35 1; ask 1 1; as 0 3"};
    private static final int CALLS_EACH = 100;

    private static StageSwitch x;
    private static Model model;

    public static void main(String[] args) {
        for (String state : STATES) {
            for (String most : MOST) {
                everyMixture(state, most);
            }
        }
        Due.finish();
    }

    private static void everyMixture(String state, String most) {
        int which = Calls.NAMES.indexOf(most.split(" ")[0]);
        List<int[]> edges = edges(Calls.numbers(most));
        int mixtures = 1;
        for (int[] each : edges) {
            mixtures *= each.length;
        }
        for (int mixture = 0; mixture < mixtures; mixture++) {
            if (mixture % CALLS_EACH == 0) {
                make(state);
            }
            int[] told = new int[edges.size()];
            int left = mixture;
            for (int i = 0; i < told.length; i++) {
                told[i] = edges.get(i)[left % edges.get(i).length];
                left /= edges.get(i).length;
            }
            Due.asModel("", x, model, which, told);
        }
    }

    private static List<int[]> edges(int[] most) {
        List<int[]> edges = new ArrayList<>();
        for (int number : most) {
            edges.add(new int[] {Integer.MIN_VALUE, -1, 0, 1, number, number + 1, Integer.MAX_VALUE});
        }
        return edges;
    }

    private static void make(String state) {
        x = new StageSwitch();
        model = new Model();
        for (String call : state.split(";")) {
            Due.asModel("", x, model, Calls.NAMES.indexOf(call.trim().split(" ")[0]), Calls.numbers(call));
        }
    }
}
