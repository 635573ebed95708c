import java.util.ArrayList;
import java.util.List;
import java.util.Map;

/** The calls of the face by name and by number, for tests that take their calls from rows or from a text. */
final class Calls {
    static final List<String> NAMES = List.of("sheet", "set", "copy", "drop", "net", "clear", "kind", "is", "as", "ask",
        "trace", "call", "end", "line", "free", "die", "mend", "bit", "goes", "demand", "cross", "shut", "count",
        "status");

    private static final Map<String, Long> NUMBERS = Map.of("NONE", -1000000L, "BAD", -1000001L, "STATE", -1000002L,
        "NULL", -1000011L, "PLACE", -1000012L, "KIND", -1000013L, "SIZE", -1000014L, "STORE", -1000015L,
        "MIN", (long) Integer.MIN_VALUE, "MAX", (long) Integer.MAX_VALUE);

    private Calls() {
    }

    static long answer(StageSwitch x, int which, int... p) {
        switch (which) {
            case 0: return x.sheet(p[0], p[1], p[2]);
            case 1: return x.set(p[0], p[1], p[2]);
            case 2: return x.copy(p[0], p[1], p[2], p[3], p[4]);
            case 3: return x.drop(p[0]);
            case 4: return x.net(p[0], p[1], p[2], p[3]);
            case 5: return x.clear(p[0]);
            case 6: return x.kind(p[0]);
            case 7: return x.is(p[0], p[1]);
            case 8: return x.as(p[0], p[1]);
            case 9: return x.ask(p[0], p[1]);
            case 10: return x.trace(p[0]);
            case 11: return x.call(p[0], p[1], p[2], p[3]);
            case 12: return x.end(p[0], p[1]);
            case 13: return x.line(p[0], p[1], p[2]);
            case 14: return x.free(p[0], p[1], p[2], p[3]);
            case 15: return x.die(p[0], p[1]);
            case 16: return x.mend(p[0], p[1]);
            case 17: return x.bit(p[0], p[1], p[2], p[3], p[4]);
            case 18: return x.goes(p[0], p[1], p[2], p[3]);
            case 19: return x.demand(p[0], p[1], p[2], p[3], p[4]);
            case 20: return x.cross(p[0], p[1], p[2]);
            case 21: return x.shut(p[0], p[1]);
            case 22: return x.count(p[0]);
            default: return x.status();
        }
    }

    /** A number of a text, told by its signs or by its name. */
    static long number(String word) {
        Long named = NUMBERS.get(word);
        return named == null ? Long.parseLong(word) : named;
    }

    /** All numbers of a text, but for the names of calls in it. */
    static int[] numbers(String words) {
        List<Integer> told = new ArrayList<>();
        for (String word : words.split("[ ,=:]+")) {
            if (!word.isEmpty() && !NAMES.contains(word)) {
                told.add((int) number(word));
            }
        }
        return told.stream().mapToInt(Integer::intValue).toArray();
    }
}
