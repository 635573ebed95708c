/** Compares answers with those that are due, prints each that differs, and tells the end by the exit code. */
final class Due {
    private static int compared = 0;
    private static int wrong = 0;

    private Due() {
    }

    static void due(String call, long got, long want) {
        compared++;
        if (got != want) {
            wrong++;
            System.out.println(call + " answered " + got + ", due is " + want);
        }
    }

    static void holds(String what, boolean is) {
        due(what, is ? 1 : 0, 1);
    }

    /** An answer, and the status that it leaves. */
    static void due(StageSwitch x, String call, long got, long want, int status) {
        due(call, got, want);
        due("status() after " + call, x.status(), status);
    }

    /** The answer, and the status behind it, that the Model gives. */
    static void asModel(String run, StageSwitch x, Model model, int which, int... p) {
        StringBuilder call = new StringBuilder(run + Calls.NAMES.get(which));
        for (int number : p) {
            call.append(' ').append(number);
        }
        due(call.toString(), Calls.answer(x, which, p), model.answer(which, p));
        due("status() after " + call, x.status(), model.answer(Calls.NAMES.indexOf("status"), p));
    }

    static void finish() {
        System.out.println(compared + " answers compared, " + wrong + " wrong");
        if (wrong > 0 || compared == 0) {
            System.exit(1);
        }
    }

    /** A new object with one SHEET 0 of ints that holds these ITEMS. */
    static StageSwitch withItems(int... items) {
        StageSwitch x = new StageSwitch();
        fill(x, 0, items);
        return x;
    }

    static void fill(StageSwitch x, int sheet, int... items) {
        x.sheet(sheet, 2, items.length);
        for (int i = 0; i < items.length; i++) {
            x.set(sheet, i, items[i]);
        }
    }

    /** ITEM i (0 to 1000) of a SHEET: the face tells no ITEM but as a DEMAND of one number. */
    static int item(StageSwitch x, int sheet, int i) {
        int often = x.demand(sheet, i, 1, 0, -1);
        return often == StageSwitch.NONE ? 0 : often;
    }
}
