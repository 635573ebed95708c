/** Promise 25: status, and that what is refused or found changes nothing else. */
public final class StatusTest {
    private static final int NONE = StageSwitch.NONE;

    public static void main(String[] args) {
        newObject();
        everyFinding();
        whatLeavesIt();
        whatClearsIt();
        refusalsChangeNothing();
        Due.finish();
    }

    private static void newObject() {
        StageSwitch x = new StageSwitch();
        Due.due("status() of a new object", x.status(), 0);
        Due.due("status() anew", x.status(), 0);
    }

    private static void everyFinding() {
        StageSwitch x = Due.withItems(1);
        x.sheet(1, 0, 1);
        x.net(0, 2, 3, 1);
        Due.due(x, "NULL", x.kind(1), -1000011, 1);
        Due.due(x, "PLACE", x.set(0, 1, 0), -1000012, 2);
        Due.due(x, "KIND", x.as(0, 2), -1000013, 3);
        Due.due(x, "SIZE", x.sheet(0, 0, -1), -1000014, 4);
        Due.due(x, "STORE", x.copy(0, 0, 1, 0, 1), -1000015, 5);
    }

    private static void whatLeavesIt() {
        StageSwitch x = Due.withItems(0, 0);
        x.net(0, 1, 1, 1);
        x.call(0, 0, 0, 0);
        x.as(0, 3);
        Due.due(x, "is(0, 0)", x.is(0, 0), 1, 3);
        Due.due(x, "is(1, 0)", x.is(1, 0), 0, 3);
        Due.due(x, "clear(1)", x.clear(1), 0, 3);
        Due.due(x, "trace(0)", x.trace(0), NONE, 3);
        Due.due(x, "count(0)", x.count(0), 1, 3);
        Due.due(x, "cross(1, 1, 1)", x.cross(1, 1, 1), 1, 3);
        Due.due(x, "shut(1, 1)", x.shut(1, 1), 19, 3);
        Due.due(x, "call(0, 0, 0, 0): STATE", x.call(0, 0, 0, 0), StageSwitch.STATE, 3);
        Due.due(x, "free(0, 0, 0, 0): STATE", x.free(0, 0, 0, 0), StageSwitch.STATE, 3);
        Due.due(x, "line(0, 1, 0): BAD", x.line(0, 1, 0), StageSwitch.BAD, 3);
        Due.due(x, "bit(1, 0, 0, 0, 0): no ORDER", x.bit(1, 0, 0, 0, 0), StageSwitch.BAD, 3);
        Due.due(x, "net(6, 1, 1, 1): BAD", x.net(6, 1, 1, 1), StageSwitch.BAD, 3);
        x.die(0, 0);
        x.as(0, 3);
        Due.due(x, "die(0, 0): STATE", x.die(0, 0), StageSwitch.STATE, 3);
    }

    private static void whatClearsIt() {
        StageSwitch x = Due.withItems(0, 1);
        x.net(0, 1, 2, 1);
        for (int which = 0; which < 19; which++) {
            x.as(0, 2);
            Due.due("status() ahead of call " + which, x.status(), 3);
            Due.holds("call " + which + " is fine", fineCall(x, which) >= NONE);
            Due.due("status() after call " + which, x.status(), 0);
        }
    }

    private static int fineCall(StageSwitch x, int which) {
        switch (which) {
            case 0: return x.sheet(1, 2, 2);
            case 1: return x.set(1, 0, 0);
            case 2: return x.copy(0, 0, 1, 0, 1);
            case 3: return x.drop(1);
            case 4: return x.net(0, 1, 2, 1);
            case 5: return x.kind(0);
            case 6: return x.as(0, 0);
            case 7: return x.ask(0, 0);
            case 8: return x.call(0, 0, 0, 0);
            case 9: return x.call(0, 1, 1, 1);
            case 10: return x.end(0, 1);
            case 11: return x.line(0, 1, 0);
            case 12: return x.free(0, 1, 1, 1);
            case 13: return x.mend(0, 0);
            case 14: return x.bit(1, 0, 0, 0, 0);
            case 15: return x.goes(1, 0, 0, 0);
            case 16: return x.demand(0, 0, 1, NONE, 0);
            case 17: return x.demand(0, 1, 1, 0, 0);
            default: return x.demand(0, 0, 1, 0, 0);
        }
    }

    private static void refusalsChangeNothing() {
        StageSwitch x = Due.withItems(3, 4);
        x.net(0, 2, 2, 2);
        x.call(0, 1, 2, 0);
        x.ask(0, 0);
        x.sheet(0, 0, -1);
        x.sheet(0, 0, 65);
        x.net(0, 0, 1, 1);
        x.call(0, 1, 3, 1);
        x.call(0, 0, 2, 1);
        x.end(0, 4);
        x.die(0, 2);
        x.mend(0, 2);
        x.ask(0, 2);
        x.as(0, 2);
        x.copy(0, 0, 0, 1, 2);
        Due.due("items", Due.item(x, 0, 0) * 10 + Due.item(x, 0, 1), 34);
        Due.due("line(0, 1, 0)", x.line(0, 1, 0), 2);
        Due.due("count(5)", x.count(5), 1);
        Due.due("kind(0)", x.kind(0), 1);
        Due.due("trace(0)", x.trace(0), 11);
    }
}
