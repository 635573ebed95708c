/** Promises 13 to 18: call, end, line, free, die, mend. */
public final class CallTest {
    private static final int BAD = StageSwitch.BAD, NONE = StageSwitch.NONE, STATE = StageSwitch.STATE;
    private static final int NULL = -1000011;

    public static void main(String[] args) {
        promise13Call();
        promise13ShutOut();
        promise13Rearranges();
        promise13LongChain();
        promise13LeastPair();
        promise13Fewest();
        promise13WrongNumbers();
        promise14End();
        promise15Line();
        promise16Free();
        promise16WrongNumbers();
        promise17Die();
        promise17SetsUpAnew();
        promise17Rearranges();
        promise17ByLinesIn();
        promise17WrongNumbers();
        promise18Mend();
        looseNetsShutNoneOut();
        Due.finish();
    }

    private static void promise13Call() {
        StageSwitch x = net(3, 2, 3);
        Due.due(x, "call(0, 0, 5, 0)", x.call(0, 0, 5, 0), 0, 0);
        dueLine(x, 0, 5, 0);
        Due.due("same first switch", x.call(0, 1, 0, 0), 0);
        dueLine(x, 1, 0, 1);
        Due.due("same last switch", x.call(0, 2, 4, 1), 0);
        dueLine(x, 2, 4, 1);
        Due.due("the least that is FREE", x.call(0, 3, 3, 0), 0);
        dueLine(x, 3, 3, 0);
        x.die(0, 0);
        x.end(0, 0);
        Due.due("not by a DEAD one", x.call(0, 0, 5, 0), 0);
        dueLine(x, 0, 5, 2);
        Due.due("count(5)", x.count(5), 4);
    }

    private static void promise13ShutOut() {
        StageSwitch x = net(1, 3, 2);
        x.call(0, 0, 0, 0);
        x.drop(0);
        Due.due(x, "first switch is full, without moving", x.call(0, 1, 3, 0), NONE, 0);
        x.drop(0);
        Due.due(x, "first switch is full, REARRANGING", x.call(0, 1, 3, 1), NONE, 0);
        Due.due("last switch is full", x.call(0, 3, 1, 1), NONE);
        Due.due("count(5)", x.count(5), 1);
        dueLine(x, 1, NONE, NONE);
        Due.due("LINE out 3 is left free", x.call(0, 3, 3, 1), 0);
        x.die(0, 0);
        Due.due("no middle one is alive", x.call(0, 5, 5, 1), NONE);
    }

    private static void promise13Rearranges() {
        StageSwitch x = net(2, 2, 2);
        blockZeroToThree(x);
        Due.due("without moving", x.call(0, 0, 3, 0), NONE);
        dueLine(x, 0, NONE, NONE);
        Due.due(x, "REARRANGING", x.call(0, 0, 3, 1), 1, 0);
        dueLine(x, 0, 3, 0);
        dueLine(x, 1, 1, 1);
        dueLine(x, 2, 2, 1);
        Due.due("count(5)", x.count(5), 3);
        Due.due("the last one", x.call(0, 3, 0, 1), 0);
        dueLine(x, 3, 0, 0);
    }

    /** Each that moves takes the link of the next one, which must move, too. */
    private static void promise13LongChain() {
        StageSwitch x = net(2, 2, 3);
        dueCall(x, 0, 1, 0);
        dueCall(x, 1, 0, 1);
        x.end(0, 0);
        dueCall(x, 2, 4, 0);
        dueCall(x, 3, 2, 1);
        dueCall(x, 4, 3, 0);
        Due.due("without moving", x.call(0, 0, 5, 0), NONE);
        Due.due("how many would be moved", x.free(0, 0, 5, 1), 3);
        Due.due("how many are moved", x.call(0, 0, 5, 1), 3);
        dueLine(x, 0, 5, 0);
        dueLine(x, 1, 0, 1);
        dueLine(x, 2, 4, 1);
        dueLine(x, 3, 2, 0);
        dueLine(x, 4, 3, 1);
        Due.due("one more, FREE", x.call(0, 5, 1, 1), 0);
        dueLine(x, 5, 1, 0);
    }

    /** Four pairs: 2, 0 would move three; 2, 1 and 3, 0 and 3, 1 two each: of these 2 is the least x. */
    private static void promise13LeastPair() {
        StageSwitch x = net(4, 4, 3);
        dueCall(x, 8, 8, 0);
        dueCall(x, 2, 11, 1);
        dueCall(x, 1, 1, 0);
        dueCall(x, 9, 3, 1);
        dueCall(x, 0, 5, 2);
        dueCall(x, 4, 2, 2);
        dueCall(x, 3, 6, 3);
        Due.due("would be moved", x.free(0, 11, 4, 1), 2);
        Due.due("are moved", x.call(0, 11, 4, 1), 2);
        dueLine(x, 11, 4, 2);
        dueLine(x, 0, 5, 1);
        dueLine(x, 2, 11, 2);
        dueLine(x, 1, 1, 0);
        dueLine(x, 3, 6, 3);
        dueLine(x, 4, 2, 2);
        dueLine(x, 8, 8, 0);
        dueLine(x, 9, 3, 1);
    }

    /** The pair 1, 0 would move one more than 2, 0: the fewest go ahead of the least x. */
    private static void promise13Fewest() {
        StageSwitch x = net(3, 3, 4);
        dueCall(x, 1, 8, 0);
        dueCall(x, 2, 5, 1);
        dueCall(x, 10, 6, 1);
        dueCall(x, 6, 10, 0);
        dueCall(x, 0, 3, 2);
        Due.due("are moved", x.call(0, 7, 4, 1), 2);
        dueLine(x, 7, 4, 2);
        dueLine(x, 0, 3, 0);
        dueLine(x, 1, 8, 2);
        dueLine(x, 2, 5, 1);
        dueLine(x, 6, 10, 0);
        dueLine(x, 10, 6, 1);
    }

    private static void promise13WrongNumbers() {
        StageSwitch x = net(2, 2, 3);
        x.call(0, 0, 0, 0);
        Due.due("place -1", x.call(-1, 0, 0, 0), BAD);
        Due.due("place 6", x.call(6, 0, 0, 0), BAD);
        Due.due("how -1", x.call(1, 0, 0, -1), BAD);
        Due.due("how 2", x.call(1, 0, 0, 2), BAD);
        Due.due("status() after BAD", x.status(), 0);
        Due.due(x, "NULL ahead of BAD LINES", x.call(1, 99, -1, 0), NULL, 1);
        Due.due("LINE in -1", x.call(0, -1, 1, 0), BAD);
        Due.due("LINE in 6", x.call(0, 6, 1, 0), BAD);
        Due.due("LINE out -1", x.call(0, 1, -1, 0), BAD);
        Due.due("LINE out 6", x.call(0, 1, 6, 0), BAD);
        Due.due("BAD ahead of STATE", x.call(0, 0, 6, 0), BAD);
        Due.due("LINE in is busy", x.call(0, 0, 1, 0), STATE);
        Due.due(x, "LINE out is busy", x.call(0, 1, 0, 1), STATE, 1);
        Due.due("count(5)", x.count(5), 1);
    }

    private static void promise14End() {
        StageSwitch x = net(2, 2, 2);
        x.call(0, 3, 1, 0);
        x.drop(0);
        Due.due(x, "end(0, 3)", x.end(0, 3), 1, 0);
        Due.due("end(0, 3) anew", x.end(0, 3), NONE);
        Due.due("count(5)", x.count(5), 0);
        dueLine(x, 3, NONE, NONE);
        Due.due("links are left", x.free(0, 3, 1, 0), 2);
        Due.due("end(6, 0)", x.end(6, 0), BAD);
        Due.due("end(-1, 0)", x.end(-1, 0), BAD);
        Due.due(x, "NULL ahead of BAD LINE", x.end(1, -1), NULL, 1);
        Due.due("end(0, 4)", x.end(0, 4), BAD);
        Due.due("end(0, -1)", x.end(0, -1), BAD);
        Due.due("status() after BAD", x.status(), 1);
        Due.due(x, "end(0, 0)", x.end(0, 0), NONE, 0);
    }

    private static void promise15Line() {
        StageSwitch x = net(2, 2, 2);
        x.call(0, 1, 3, 0);
        x.call(0, 0, 2, 0);
        dueLine(x, 1, 3, 0);
        dueLine(x, 0, 2, 1);
        dueLine(x, 2, NONE, NONE);
        Due.due("line(6, 0, 0)", x.line(6, 0, 0), BAD);
        Due.due("line(-1, 0, 0)", x.line(-1, 0, 0), BAD);
        Due.due("what 2: BAD ahead of NULL", x.line(1, 0, 2), BAD);
        Due.due("what -1", x.line(0, 0, -1), BAD);
        Due.due("status() after BAD", x.status(), 0);
        Due.due(x, "NULL ahead of BAD LINE", x.line(1, 4, 0), NULL, 1);
        Due.due("line(0, 4, 0)", x.line(0, 4, 0), BAD);
        Due.due("line(0, -1, 1)", x.line(0, -1, 1), BAD);
        Due.due("status() after BAD", x.status(), 1);
        Due.due(x, "line(0, 3, 1)", x.line(0, 3, 1), NONE, 0);
    }

    private static void promise16Free() {
        StageSwitch x = net(2, 2, 2);
        Due.due("all are FREE", x.free(0, 0, 0, 0), 2);
        blockZeroToThree(x);
        Due.due("FREE for 0 to 3", x.free(0, 0, 3, 0), 0);
        Due.due(x, "to be moved for 0 to 3", x.free(0, 0, 3, 1), 1, 0);
        dueLine(x, 2, 2, 0);
        dueLine(x, 0, NONE, NONE);
        Due.due("FREE for 3 to 3", x.free(0, 3, 3, 0), 1);
        Due.due("to be moved for 3 to 3", x.free(0, 3, 3, 1), 0);
        x.die(0, 1);
        Due.due("FREE of those that are left", x.free(0, 0, 3, 0), 0);
        x.drop(0);
        Due.due(x, "SHUT OUT", x.free(0, 0, 3, 1), NONE, 0);
    }

    private static void promise16WrongNumbers() {
        StageSwitch x = net(2, 2, 2);
        x.call(0, 0, 0, 0);
        Due.due("place -1", x.free(-1, 0, 0, 0), BAD);
        Due.due("place 6", x.free(6, 0, 0, 0), BAD);
        Due.due("what -1", x.free(1, 0, 0, -1), BAD);
        Due.due("what 2", x.free(1, 0, 0, 2), BAD);
        Due.due("status() after BAD", x.status(), 0);
        Due.due(x, "NULL ahead of BAD LINES", x.free(1, 9, 9, 0), NULL, 1);
        Due.due("LINE in 4", x.free(0, 4, 1, 0), BAD);
        Due.due("LINE in -1", x.free(0, -1, 1, 1), BAD);
        Due.due("LINE out 4: BAD ahead of STATE", x.free(0, 0, 4, 0), BAD);
        Due.due("LINE out -1", x.free(0, 1, -1, 0), BAD);
        Due.due("LINE in is busy", x.free(0, 0, 1, 0), STATE);
        Due.due(x, "LINE out is busy", x.free(0, 1, 0, 1), STATE, 1);
    }

    private static void promise17Die() {
        StageSwitch x = net(2, 2, 2);
        x.call(0, 0, 0, 0);
        x.call(0, 1, 2, 0);
        x.call(0, 2, 1, 0);
        x.call(0, 3, 3, 0);
        x.drop(0);
        Due.due(x, "die(0, 0)", x.die(0, 0), 2, 0);
        dueLine(x, 0, NONE, NONE);
        dueLine(x, 1, 2, 1);
        dueLine(x, 2, 1, 1);
        dueLine(x, 3, NONE, NONE);
        Due.due("count(5)", x.count(5), 2);
        Due.due("LINES of lost ones are left", x.free(0, 0, 3, 1), NONE);
        Due.due("die(0, 1)", x.die(0, 1), 2);
        Due.due("count(5)", x.count(5), 0);
    }

    private static void promise17SetsUpAnew() {
        StageSwitch x = net(3, 2, 3);
        x.call(0, 0, 0, 0);
        x.call(0, 2, 2, 0);
        x.call(0, 4, 4, 0);
        x.call(0, 5, 1, 0);
        dueLine(x, 5, 1, 1);
        Due.due("die(0, 0)", x.die(0, 0), 0);
        dueLine(x, 0, 0, 2);
        dueLine(x, 2, 2, 1);
        dueLine(x, 4, 4, 2);
        dueLine(x, 5, 1, 1);
        Due.due("one without CALLS", x.die(0, 0), STATE);
    }

    /** LINE 0's CALL must move another one to go on, and LINE 2's goes by what is left then. */
    private static void promise17Rearranges() {
        StageSwitch x = net(3, 2, 2);
        dueCall(x, 1, 1, 0);
        dueCall(x, 0, 0, 1);
        dueCall(x, 2, 2, 0);
        dueCall(x, 3, 3, 1);
        x.end(0, 0);
        x.end(0, 3);
        x.end(0, 1);
        dueCall(x, 0, 0, 0);
        x.call(0, 1, 3, 0);
        dueLine(x, 1, 3, 1);
        x.call(0, 3, 1, 0);
        dueLine(x, 3, 1, 1);
        Due.due("die(0, 1)", x.die(0, 1), 0);
        dueLine(x, 0, 0, 0);
        dueLine(x, 1, 3, 2);
        dueLine(x, 2, 2, 0);
        dueLine(x, 3, 1, 2);
        movesWhatStays();
    }

    private static void movesWhatStays() {
        StageSwitch x = net(3, 2, 2);
        blockZeroToThree(x);
        dueCall(x, 0, 3, 2);
        Due.due("die(0, 2)", x.die(0, 2), 0);
        dueLine(x, 0, 3, 0);
        dueLine(x, 1, 1, 1);
        dueLine(x, 2, 2, 1);
    }

    /** LINE 2 moves LINE 7's CALL from 2 to 1 and goes by 2; LINE 6, behind it, finds 2 FREE. */
    private static void promise17ByLinesIn() {
        StageSwitch x = net(3, 3, 3);
        dueCall(x, 6, 0, 0);
        dueCall(x, 1, 1, 1);
        dueCall(x, 2, 4, 0);
        dueCall(x, 8, 3, 1);
        dueCall(x, 7, 5, 2);
        x.end(0, 8);
        Due.due("die(0, 0)", x.die(0, 0), 0);
        dueLine(x, 1, 1, 1);
        dueLine(x, 2, 4, 2);
        dueLine(x, 6, 0, 2);
        dueLine(x, 7, 5, 1);
    }

    private static void promise17WrongNumbers() {
        StageSwitch x = net(2, 2, 2);
        x.call(0, 0, 0, 0);
        Due.due("die(6, 0)", x.die(6, 0), BAD);
        Due.due("die(-1, 0)", x.die(-1, 0), BAD);
        Due.due(x, "NULL ahead of BAD", x.die(1, 12), NULL, 1);
        Due.due("die(0, 2)", x.die(0, 2), BAD);
        Due.due(x, "die(0, -1)", x.die(0, -1), BAD, 1);
        x.die(0, 1);
        x.drop(0);
        Due.due(x, "die(0, 1) anew", x.die(0, 1), STATE, 1);
        Due.due("as(0, 0)", x.as(0, 0), 1);
    }

    private static void promise18Mend() {
        StageSwitch x = net(2, 2, 2);
        x.die(0, 1);
        x.drop(0);
        Due.due(x, "mend(0, 1)", x.mend(0, 1), 1, 0);
        Due.due("mend(0, 1) anew", x.mend(0, 1), 0);
        Due.due("mend(0, 0)", x.mend(0, 0), 0);
        Due.due("as(0, 0)", x.as(0, 0), 2);
        Due.due("FREE again", x.free(0, 0, 0, 0), 2);
        Due.due("it can DIE again", x.die(0, 1), 0);
        Due.due("mend(6, 0)", x.mend(6, 0), BAD);
        Due.due("mend(-1, 0)", x.mend(-1, 0), BAD);
        Due.due(x, "NULL ahead of BAD", x.mend(1, -1), NULL, 1);
        Due.due("mend(0, 2)", x.mend(0, 2), BAD);
        Due.due(x, "mend(0, -1)", x.mend(0, -1), BAD, 1);
    }

    /** Every order of six LINES, with no middle one to spare. */
    private static void looseNetsShutNoneOut() {
        for (int step : new int[] {1, 5, 7, 11, 13, 17}) {
            StageSwitch x = net(3, 3, 6);
            for (int a = 0; a < 18; a++) {
                int line = a * 5 % 18;
                int moved = x.call(0, line, (line * step + 4) % 18, 1);
                Due.holds("LOOSE: " + line + " by steps of " + step, moved >= 0);
            }
            Due.due("count(5)", x.count(5), 18);
        }
    }

    private static StageSwitch net(int m, int n, int r) {
        StageSwitch x = new StageSwitch();
        x.net(0, m, n, r);
        return x;
    }

    /** Two of two lines by two: LINE 1 goes by 1, LINE 2 by 0, so that 0 to 3 must move LINE 2's. */
    private static void blockZeroToThree(StageSwitch x) {
        dueCall(x, 0, 0, 0);
        dueCall(x, 1, 1, 1);
        x.end(0, 0);
        dueCall(x, 2, 2, 0);
    }

    private static void dueCall(StageSwitch x, int a, int b, int middle) {
        Due.due("call(0, " + a + ", " + b + ", 0)", x.call(0, a, b, 0), 0);
        dueLine(x, a, b, middle);
    }

    private static void dueLine(StageSwitch x, int a, int b, int middle) {
        Due.due("line(0, " + a + ", 0)", x.line(0, a, 0), b);
        Due.due("line(0, " + a + ", 1)", x.line(0, a, 1), middle);
    }
}
