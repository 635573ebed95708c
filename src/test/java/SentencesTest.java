import java.io.IOException;
import java.nio.file.Files;
import java.nio.file.Path;

/**
 * Each sentence of the document that names a boundary case, with a test of its own: they stand in
 * src/test/sentences. A line there that begins with > is the sentence, and begins a new object; the
 * lines below it tell calls with the answers that are due, parted by semicolons:
 * <pre>
 *   call 0 1 2 0 = NONE         a call of the face; an answer that ends it is due
 *   times 9 net 5 1 1 1 = 2     so often
 *   fill 0 2 7 8                SHEET 0, of LANE 2, is made with the ITEMS 7, 8
 *   items 0 7 8                 the ITEMS (0 to 1000) of SHEET 0
 *   way 0 1 = 2 3               in place 0, LINE 1's CALL: to LINE 2, by 3
 *   traced 11 10                all of THE TRACE
 *   bits 2 0 1 : 0 1 0 1 1 1    k 2, SHEET 0, ITEMS from 1 on: all BITS, stage by stage
 *   leads 1 0 3 : 1 0           k 1, SHEET 0, BITS from ITEM 3 on: where each LINE goes out
 *   parts 0 2 : 0 1 5, 1 0 3    all PARTS of the DEMAND, 2 by 2, on SHEET 0: the ORDER, how often
 * </pre>
 */
public final class SentencesTest {
    private static String sentence = "";
    private static int steps = 0;
    private static StageSwitch x = new StageSwitch();

    public static void main(String[] args) throws IOException {
        for (String file : new String[] {"terms.txt", "promises.txt"}) {
            for (String line : Files.readAllLines(Path.of("src/test/sentences", file))) {
                if (line.startsWith(">")) {
                    begin(file, line.substring(1).trim());
                } else if (!line.startsWith("#") && !line.startsWith("==") && !line.isBlank()) {
                    for (String step : line.split(";")) {
                        take(step.trim());
                    }
                }
            }
        }
        begin("", "");
        Due.finish();
    }

    /** A sentence begins: the one ahead of it must have been tested. */
    private static void begin(String file, String words) {
        Due.holds(sentence + "has a test", steps > 0 || sentence.isEmpty());
        sentence = file + ": \"" + words + "\": ";
        steps = 0;
        x = new StageSwitch();
    }

    private static void take(String step) {
        steps++;
        String[] words = step.split(" ", 3);
        int[] told = Calls.numbers(step.substring(words[0].length()));
        switch (words[0]) {
            case "times":
                for (int each = 0; each < told[0]; each++) {
                    call(words[2]);
                }
                break;
            case "fill": fill(told); break;
            case "items": dueItems(told); break;
            case "way":
                due(step, x.line(told[0], told[1], 0), told[2]);
                due(step, x.line(told[0], told[1], 1), told[3]);
                break;
            case "traced":
                for (int i = 0; i <= told.length; i++) {
                    due(step + ", " + i, x.trace(i), i < told.length ? told[i] : StageSwitch.NONE);
                }
                break;
            case "bits": dueBits(step, told); break;
            case "leads":
                for (int line = 0; line < 1 << told[0]; line++) {
                    due(step + ", " + line, x.goes(told[0], told[1], told[2], line), told[3 + line]);
                }
                break;
            case "parts": dueParts(step, told); break;
            default: call(step);
        }
    }

    private static void call(String step) {
        String[] sides = step.split("=");
        String[] words = sides[0].trim().split(" ", 2);
        int which = Calls.NAMES.indexOf(words[0]);
        int[] arguments = words.length > 1 ? Calls.numbers(words[1]) : new int[0];
        if (which < 0 || sides.length != 2) {
            throw new IllegalStateException("no such step: " + step);
        }
        due(step, Calls.answer(x, which, arguments), Calls.number(sides[1].trim()));
    }

    private static void fill(int[] told) {
        x.sheet(told[0], told[1], told.length - 2);
        for (int i = 2; i < told.length; i++) {
            due("fill", x.set(told[0], i - 2, told[i]), told[i]);
        }
    }

    private static void dueItems(int[] told) {
        for (int i = 1; i < told.length; i++) {
            due("item " + (i - 1) + " of SHEET " + told[0], Due.item(x, told[0], i - 1), told[i]);
        }
    }

    private static void dueBits(String step, int[] told) {
        int each = 1 << (told[0] - 1);
        for (int at = 0; at < (2 * told[0] - 1) * each; at++) {
            int stage = at / each;
            int j = at % each;
            due(step + ", " + stage + ", " + j, x.bit(told[0], told[1], told[2], stage, j), told[3 + at]);
        }
    }

    private static void dueParts(String step, int[] told) {
        int s = told[1];
        int parts = (told.length - 2) / (s + 1);
        due(step, x.demand(told[0], 0, s, StageSwitch.NONE, 0), parts);
        for (int at = 0; at < parts * (s + 1); at++) {
            int part = at / (s + 1);
            int j = at % (s + 1) == s ? -1 : at % (s + 1);
            due(step + ", part " + part + ", " + j, x.demand(told[0], 0, s, part, j), told[2 + at]);
        }
        due(step + ", behind them", x.demand(told[0], 0, s, parts, -1), StageSwitch.NONE);
    }

    private static void due(String step, long got, long want) {
        Due.due(sentence + step, got, want);
    }
}
