/** Promises 6 to 12: net, clear, kind, is, as, ask, trace. */
public final class NetTest {
    private static final int BAD = StageSwitch.BAD, NONE = StageSwitch.NONE;
    private static final int NULL = -1000011, KIND = -1000013;

    public static void main(String[] args) {
        promise6Net();
        promise6WrongNumbers();
        promise7Clear();
        promise8Kind();
        promise8DeadOnesDoNotCount();
        promise9Is();
        promise10As();
        promise11Ask();
        promise11AsksWithDeadOnes();
        promise11WrongNumbers();
        promise12Trace();
        Due.finish();
    }

    private static void promise6Net() {
        StageSwitch x = new StageSwitch();
        Due.due(x, "net(0, 12, 6, 6)", x.net(0, 12, 6, 6), 2, 0);
        Due.due("net(5, 1, 1, 1)", x.net(5, 1, 1, 1), 2);
        Due.due("net(1, 6, 6, 1)", x.net(1, 6, 6, 1), 1);
        Due.due("net(1, 1, 6, 6) in place of it", x.net(1, 1, 6, 6), 3);
        Due.due("net(2, 2, 3, 1)", x.net(2, 2, 3, 1), 0);
        Due.due("count(1)", x.count(1), 4);
        x.call(0, 35, 35, 0);
        x.die(0, 11);
        Due.due("count(5)", x.count(5), 1);
        x.net(0, 12, 6, 6);
        Due.due("count(5), made anew", x.count(5), 0);
        Due.due("die(0, 11), made anew", x.die(0, 11), 0);
        Due.due("line(0, 35, 0)", x.line(0, 35, 0), NONE);
    }

    private static void promise6WrongNumbers() {
        StageSwitch x = new StageSwitch();
        x.drop(0);
        int[][] wrong = {{-1, 1, 1, 1}, {6, 1, 1, 1}, {0, 0, 1, 1}, {0, 13, 1, 1}, {0, -1, 1, 1},
            {0, 1, 0, 1}, {0, 1, 7, 1}, {0, 1, 1, 0}, {0, 1, 1, 7}};
        for (int[] w : wrong) {
            Due.due(x, "a wrong net", x.net(w[0], w[1], w[2], w[3]), BAD, 1);
        }
        Due.due("count(1)", x.count(1), 0);
    }

    private static void promise7Clear() {
        StageSwitch x = new StageSwitch();
        x.net(5, 2, 2, 2);
        x.call(5, 0, 0, 0);
        Due.due("clear(-1)", x.clear(-1), BAD);
        Due.due("clear(6)", x.clear(6), BAD);
        x.drop(0);
        Due.due(x, "clear(5) leaves the status", x.clear(5), 1, 1);
        Due.due(x, "clear(5) anew", x.clear(5), 0, 1);
        Due.due("count(1)", x.count(1), 0);
        Due.due("count(5)", x.count(5), 0);
        Due.due("kind(5)", x.kind(5), NULL);
    }

    private static void promise8Kind() {
        StageSwitch x = new StageSwitch();
        for (int m = 1; m <= 12; m++) {
            for (int n = 1; n <= 6; n++) {
                int kind = m >= 2 * n - 1 ? 2 : m >= n ? 1 : m == 1 ? 3 : 0;
                Due.due("net(0, " + m + ", " + n + ", 2)", x.net(0, m, n, 2), kind);
                Due.due("kind of it", x.kind(0), kind);
            }
        }
        Due.due("kind(-1)", x.kind(-1), BAD);
        Due.due("kind(6)", x.kind(6), BAD);
        Due.due(x, "kind(1)", x.kind(1), NULL, 1);
        Due.due(x, "kind(0)", x.kind(0), 2, 0);
    }

    private static void promise8DeadOnesDoNotCount() {
        StageSwitch x = new StageSwitch();
        x.net(0, 4, 2, 2);
        int[] kinds = {2, 2, 1, 3, 0};
        for (int died = 0; died <= 4; died++) {
            Due.due("kind with " + died + " dead", x.kind(0), kinds[died]);
            x.die(0, died);
        }
        x.mend(0, 2);
        Due.due("kind, one mended", x.kind(0), 3);
        x.net(1, 1, 1, 3);
        x.die(1, 0);
        Due.due("kind of none alive, one LINE", x.kind(1), 0);
    }

    private static void promise9Is() {
        StageSwitch x = new StageSwitch();
        x.net(0, 1, 2, 2);
        x.net(1, 2, 2, 2);
        x.net(2, 3, 2, 2);
        x.net(3, 2, 3, 2);
        x.net(4, 1, 1, 2);
        int[][] are = {{1, 0, 0, 1}, {1, 1, 0, 0}, {1, 1, 1, 0}, {1, 0, 0, 0}, {1, 1, 1, 0}, {0, 0, 0, 0}};
        x.drop(0);
        for (int place = 0; place < 6; place++) {
            for (int kind = 0; kind < 4; kind++) {
                Due.due(x, "is(" + place + ", " + kind + ")", x.is(place, kind), are[place][kind], 1);
            }
            Due.due("is(" + place + ", 4)", x.is(place, 4), BAD);
            Due.due("is(" + place + ", -1)", x.is(place, -1), BAD);
        }
        Due.due("is(6, 0)", x.is(6, 0), BAD);
        Due.due("is(-1, 0)", x.is(-1, 0), BAD);
    }

    private static void promise10As() {
        StageSwitch x = new StageSwitch();
        x.net(0, 5, 2, 2);
        for (int kind = 0; kind < 3; kind++) {
            Due.due(x, "as(0, " + kind + ")", x.as(0, kind), 5, 0);
        }
        Due.due(x, "as(0, 3)", x.as(0, 3), KIND, 3);
        x.die(0, 4);
        Due.due("as(0, 2), one dead", x.as(0, 2), 4);
        x.net(1, 1, 2, 2);
        Due.due("as(1, 3)", x.as(1, 3), 1);
        Due.due("as(1, 0)", x.as(1, 0), 1);
        Due.due(x, "as(1, 1)", x.as(1, 1), KIND, 3);
        Due.due("as(1, 2)", x.as(1, 2), KIND);
        Due.due("as(6, 0)", x.as(6, 0), BAD);
        Due.due("as(-1, 0)", x.as(-1, 0), BAD);
        Due.due("as(2, 4): BAD ahead of NULL", x.as(2, 4), BAD);
        Due.due("as(2, -1)", x.as(2, -1), BAD);
        Due.due("status() after BAD", x.status(), 3);
        Due.due(x, "as(2, 0)", x.as(2, 0), NULL, 1);
    }

    private static void promise11Ask() {
        StageSwitch x = new StageSwitch();
        x.net(0, 2, 3, 5);
        x.net(1, 3, 3, 5);
        x.net(2, 5, 3, 5);
        x.net(3, 1, 3, 5);
        for (int place = 0; place < 4; place++) {
            x.call(place, 0, 0, 0);
        }
        dueAsk(x, 0, 0, 15, 10);
        dueAsk(x, 0, 1, 1, 20);
        dueAsk(x, 1, 0, 18, 11, 10);
        dueAsk(x, 1, 1, 101, 21, 20);
        dueAsk(x, 2, 0, 15 + 5 + 101, 12, 11, 10, 21, 20);
        dueAsk(x, 2, 1, 101, 21, 20);
        dueAsk(x, 3, 0, 7, 13, 10);
        dueAsk(x, 3, 1, 8, 22, 20, 13, 10);
    }

    private static void promise11AsksWithDeadOnes() {
        StageSwitch x = new StageSwitch();
        x.net(0, 4, 2, 3);
        x.die(0, 0);
        dueAsk(x, 0, 0, 6 + 3 + 100, 12, 11, 10, 21, 20);
        x.die(0, 1);
        dueAsk(x, 0, 0, 6 + 2, 11, 10);
        x.die(0, 2);
        dueAsk(x, 0, 0, 3, 13, 10);
        dueAsk(x, 0, 1, 3, 22, 20, 13, 10);
        x.die(0, 3);
        dueAsk(x, 0, 0, 6, 10);
        dueAsk(x, 0, 1, 0, 20);
    }

    private static void promise11WrongNumbers() {
        StageSwitch x = new StageSwitch();
        x.net(0, 1, 2, 2);
        x.ask(0, 0);
        Due.due("ask(6, 0)", x.ask(6, 0), BAD);
        Due.due("ask(-1, 0)", x.ask(-1, 0), BAD);
        Due.due("ask(1, 2): BAD ahead of NULL", x.ask(1, 2), BAD);
        Due.due("ask(0, -1)", x.ask(0, -1), BAD);
        Due.due("status() after BAD", x.status(), 0);
        Due.due("THE TRACE after BAD", x.trace(0), 13);
        Due.due(x, "ask(1, 0)", x.ask(1, 0), NULL, 1);
        Due.due("THE TRACE after NULL", x.trace(0), NONE);
        Due.due(x, "ask(0, 1)", x.ask(0, 1), 2, 0);
    }

    private static void promise12Trace() {
        StageSwitch x = new StageSwitch();
        x.net(0, 3, 2, 2);
        x.ask(0, 0);
        x.drop(0);
        int[] bodies = {12, 11, 10, 21, 20};
        for (int i = 0; i < bodies.length; i++) {
            Due.due(x, "trace(" + i + ")", x.trace(i), bodies[i], 1);
        }
        for (int i : new int[] {-1, 5, 15, 16, Integer.MIN_VALUE, Integer.MAX_VALUE}) {
            Due.due(x, "trace(" + i + ")", x.trace(i), NONE, 1);
        }
        x.clear(0);
        Due.due("trace(0), the NET gone", x.trace(0), 12);
    }

    private static void dueAsk(StageSwitch x, int place, int what, int want, int... bodies) {
        String ask = "ask(" + place + ", " + what + ")";
        Due.due(x, ask, x.ask(place, what), want, 0);
        for (int i = 0; i < bodies.length; i++) {
            Due.due(ask + ", trace(" + i + ")", x.trace(i), bodies[i]);
        }
        Due.due(ask + ", behind its trace", x.trace(bodies.length), NONE);
    }
}
