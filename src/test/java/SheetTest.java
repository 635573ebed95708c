/** Promises 1 to 5: a new object, sheet, set, copy, drop. */
public final class SheetTest {
    private static final int BAD = StageSwitch.BAD;
    private static final int NULL = -1000011, PLACE = -1000012, SIZE = -1000014, STORE = -1000015;

    public static void main(String[] args) {
        promise1NewObject();
        promise2Sheet();
        promise2WrongNumbers();
        promise3Set();
        promise3Lanes();
        promise3WrongNumbers();
        promise4Copy();
        promise4Overlaps();
        promise4WrongNumbers();
        promise5Drop();
        Due.finish();
    }

    private static void promise1NewObject() {
        StageSwitch x = new StageSwitch();
        for (int what = 0; what <= 5; what++) {
            Due.due("new: count(" + what + ")", x.count(what), 0);
        }
        Due.due("new: status()", x.status(), 0);
        Due.due("new: trace(0)", x.trace(0), StageSwitch.NONE);
        for (int sheet = 0; sheet < 8; sheet++) {
            Due.due("new: drop(" + sheet + ")", x.drop(sheet), NULL);
        }
        for (int place = 0; place < 6; place++) {
            Due.due("new: clear(" + place + ")", x.clear(place), 0);
            Due.due("new: kind(" + place + ")", x.kind(place), NULL);
        }
    }

    private static void promise2Sheet() {
        StageSwitch x = new StageSwitch();
        Due.due(x, "sheet(0, 0, 0)", x.sheet(0, 0, 0), 0, 0);
        Due.due(x, "sheet(7, 2, 64)", x.sheet(7, 2, 64), 64, 0);
        Due.due("count(0)", x.count(0), 2);
        Due.due("sheet(7, 1, 3) in place of it", x.sheet(7, 1, 3), 3);
        Due.due("count(0)", x.count(0), 2);
        Due.due("set(7, 3, 1) beyond it", x.set(7, 3, 1), PLACE);
        Due.due("set(7, 2, 70000) of shorts", x.set(7, 2, 70000), 4464);
        StageSwitch y = Due.withItems(9, 9);
        y.sheet(0, 2, 2);
        Due.due("items of a new SHEET", Due.item(y, 0, 0) + Due.item(y, 0, 1), 0);
    }

    private static void promise2WrongNumbers() {
        StageSwitch x = Due.withItems(4, 5);
        Due.due("sheet(-1, 0, 1)", x.sheet(-1, 0, 1), BAD);
        Due.due("sheet(8, 0, 1)", x.sheet(8, 0, 1), BAD);
        Due.due("sheet(0, -1, 1)", x.sheet(0, -1, 1), BAD);
        Due.due("sheet(0, 3, 1)", x.sheet(0, 3, 1), BAD);
        Due.due("sheet(0, 0, 65)", x.sheet(0, 0, 65), BAD);
        Due.due("sheet(8, 0, -1): BAD ahead of SIZE", x.sheet(8, 0, -1), BAD);
        Due.due("sheet(0, 3, -1): BAD ahead of SIZE", x.sheet(0, 3, -1), BAD);
        Due.due("status() after BAD", x.status(), 0);
        Due.due(x, "sheet(0, 0, -1)", x.sheet(0, 0, -1), SIZE, 4);
        Due.due(x, "sheet(1, 0, MIN)", x.sheet(1, 0, Integer.MIN_VALUE), SIZE, 4);
        Due.due("count(0) after refusals", x.count(0), 1);
        Due.due("item 1 after refusals", Due.item(x, 0, 1), 5);
    }

    private static void promise3Set() {
        StageSwitch x = new StageSwitch();
        x.sheet(3, 2, 64);
        Due.due(x, "set(3, 0, 17)", x.set(3, 0, 17), 17, 0);
        Due.due(x, "set(3, 63, 18)", x.set(3, 63, 18), 18, 0);
        Due.due("item 0", Due.item(x, 3, 0), 17);
        Due.due("item 63", Due.item(x, 3, 63), 18);
        Due.due("an ITEM like a finding", x.set(3, 1, NULL), NULL);
        Due.due("status() after it", x.status(), 0);
    }

    private static void promise3Lanes() {
        StageSwitch x = new StageSwitch();
        x.sheet(0, 0, 1);
        x.sheet(1, 1, 1);
        x.sheet(2, 2, 1);
        Due.due("byte 127", x.set(0, 0, 127), 127);
        Due.due("byte 128", x.set(0, 0, 128), -128);
        Due.due("byte -129", x.set(0, 0, -129), 127);
        Due.due("byte 256", x.set(0, 0, 256), 0);
        Due.due("short 32767", x.set(1, 0, 32767), 32767);
        Due.due("short 32768", x.set(1, 0, 32768), -32768);
        Due.due("short -32769", x.set(1, 0, -32769), 32767);
        Due.due("int MAX", x.set(2, 0, Integer.MAX_VALUE), Integer.MAX_VALUE);
        Due.due("int MIN", x.set(2, 0, Integer.MIN_VALUE), Integer.MIN_VALUE);
    }

    private static void promise3WrongNumbers() {
        StageSwitch x = Due.withItems(4);
        Due.due("set(-1, 0, 0)", x.set(-1, 0, 0), BAD);
        Due.due("set(8, 0, 0)", x.set(8, 0, 0), BAD);
        Due.due("status() after BAD", x.status(), 0);
        Due.due(x, "set(1, 5, 0): NULL ahead of PLACE", x.set(1, 5, 0), NULL, 1);
        Due.due(x, "set(0, 1, 0)", x.set(0, 1, 0), PLACE, 2);
        Due.due(x, "set(0, -1, 0)", x.set(0, -1, 0), PLACE, 2);
        Due.due("set(0, MIN, 0)", x.set(0, Integer.MIN_VALUE, 0), PLACE);
        Due.due("set(0, MAX, 0)", x.set(0, Integer.MAX_VALUE, 0), PLACE);
        Due.due("item 0 after refusals", Due.item(x, 0, 0), 4);
    }

    private static void promise4Copy() {
        StageSwitch x = Due.withItems(1, 2, 3, 4);
        Due.fill(x, 1, 5, 6, 7);
        Due.due(x, "copy(0, 1, 1, 0, 2)", x.copy(0, 1, 1, 0, 2), 2, 0);
        dueItems(x, 1, 2, 3, 7);
        dueItems(x, 0, 1, 2, 3, 4);
        Due.due("copy(0, 4, 1, 3, 0): none, at the ends", x.copy(0, 4, 1, 3, 0), 0);
        Due.due("copy(1, 0, 0, 1, 3)", x.copy(1, 0, 0, 1, 3), 3);
        dueItems(x, 0, 1, 2, 3, 7);
    }

    private static void promise4Overlaps() {
        StageSwitch x = Due.withItems(1, 2, 3, 4, 5);
        Due.due("copy(0, 0, 0, 1, 4)", x.copy(0, 0, 0, 1, 4), 4);
        dueItems(x, 0, 1, 1, 2, 3, 4);
        Due.due("copy(0, 2, 0, 0, 3)", x.copy(0, 2, 0, 0, 3), 3);
        dueItems(x, 0, 2, 3, 4, 3, 4);
        Due.due("copy(0, 0, 0, 0, 5)", x.copy(0, 0, 0, 0, 5), 5);
        dueItems(x, 0, 2, 3, 4, 3, 4);
    }

    private static void promise4WrongNumbers() {
        StageSwitch x = Due.withItems(1, 2, 3);
        x.sheet(1, 1, 3);
        Due.fill(x, 2, 8, 8);
        Due.due("copy(8, ..)", x.copy(8, 0, 0, 0, 1), BAD);
        Due.due("copy(.., 8, ..)", x.copy(0, 0, 8, 0, 1), BAD);
        Due.due("copy(-1, ..)", x.copy(-1, 0, 0, 0, 1), BAD);
        Due.due("copy(.., -1, ..)", x.copy(0, 0, -1, 0, 1), BAD);
        Due.due("a missing, b BAD", x.copy(5, 0, 8, 0, 1), BAD);
        Due.due("status() after BAD", x.status(), 0);
        Due.due(x, "a is missing", x.copy(5, 0, 0, 0, 1), NULL, 1);
        Due.due(x, "b is missing, with wrong places", x.copy(1, 9, 5, -9, -1), NULL, 1);
        Due.due(x, "two LANES, with wrong places", x.copy(0, 9, 1, -9, -1), STORE, 5);
        Due.due(x, "two LANES, none", x.copy(0, 0, 1, 0, 0), STORE, 5);
        Due.due(x, "i below 0", x.copy(0, -1, 2, 0, 1), PLACE, 2);
        Due.due(x, "j below 0", x.copy(0, 0, 2, -1, 1), PLACE, 2);
        Due.due(x, "n below 0", x.copy(0, 1, 2, 1, -1), PLACE, 2);
        Due.due(x, "a's end", x.copy(0, 2, 2, 0, 2), PLACE, 2);
        Due.due(x, "b's end", x.copy(0, 0, 2, 1, 2), PLACE, 2);
        Due.due("none, beyond a's end", x.copy(0, 4, 2, 0, 0), PLACE);
        Due.due("none, beyond b's end", x.copy(0, 0, 2, 3, 0), PLACE);
        Due.due("i MAX", x.copy(0, Integer.MAX_VALUE, 2, 0, 1), PLACE);
        Due.due("j MAX", x.copy(0, 0, 2, Integer.MAX_VALUE, 1), PLACE);
        Due.due("n MAX", x.copy(0, 1, 2, 1, Integer.MAX_VALUE), PLACE);
        Due.due("n MIN", x.copy(0, 0, 2, 0, Integer.MIN_VALUE), PLACE);
        dueItems(x, 0, 1, 2, 3);
        dueItems(x, 2, 8, 8);
    }

    private static void promise5Drop() {
        StageSwitch x = Due.withItems(1, 2, 3);
        x.sheet(1, 0, 0);
        Due.due("drop(-1)", x.drop(-1), BAD);
        Due.due("drop(8)", x.drop(8), BAD);
        Due.due(x, "drop(2)", x.drop(2), NULL, 1);
        Due.due(x, "drop(0)", x.drop(0), 3, 0);
        Due.due("count(0)", x.count(0), 1);
        Due.due("set(0, 0, 0)", x.set(0, 0, 0), NULL);
        Due.due("drop(0) anew", x.drop(0), NULL);
        Due.due("drop(1)", x.drop(1), 0);
        Due.due("count(0)", x.count(0), 0);
    }

    private static void dueItems(StageSwitch x, int sheet, int... items) {
        for (int i = 0; i < items.length; i++) {
            Due.due("item " + i + " of SHEET " + sheet, Due.item(x, sheet, i), items[i]);
        }
    }
}
