/** The ends that promises 30 to 32 and their terms name: body, act, trace. */
public final class BoundsActsTest {
    private static final Check CHECK = new Check();
    private static final Unchanged UNCHANGED = new Unchanged(CHECK);
    private static final int MIN = Integer.MIN_VALUE, MAX = Integer.MAX_VALUE;

    public static void main(String[] args) {
        kindsAre0To7();
        fiftyBodiesAreFull();
        badKindAheadOfFull();
        noActYet();
        actsAre0To3();
        noSuchBody();
        nothingButTheTraceIsGone();
        numberOfTheLast();
        wraps();
        traceOfOneBody();
        longestTrace();
        traceOfTheLatest();
        CHECK.end();
    }

    private static SecondBest ofKinds(int... kinds) {
        SecondBest x = new SecondBest();
        for (int kind : kinds) {
            x.body(kind);
        }
        return x;
    }

    /** "A MATCH of a KIND (0 .. 7) is kept: its number. BAD". */
    private static void kindsAre0To7() {
        SecondBest x = new SecondBest();
        for (int kind = 0; kind < 8; kind++) {
            CHECK.due("body(" + kind + ")", x.body(kind), kind);
            x.keep(0, kind);
            CHECK.due("its kind", x.taken(0, 0), kind);
        }
        for (int kind : new int[] {-1, 8, MIN, MAX}) {
            UNCHANGED.due(World.values(), "body(" + kind + ")", y -> y.body(kind), -1);
        }
    }

    /** "BODIES 0 .. 49"; "FULL". */
    private static void fiftyBodiesAreFull() {
        SecondBest x = new SecondBest();
        for (int n = 0; n < 50; n++) {
            CHECK.due("body " + n, x.body(7 - n % 8), n);
            CHECK.due("how many", x.count(5), n + 1);
        }
        CHECK.due("the 51st", x.body(0), -3);
        CHECK.due("fifty still", x.count(5), 50);
        for (int kind = 0; kind < 8; kind++) {
            int one = kind;
            UNCHANGED.due(World.STORED, "body(" + kind + ")", y -> y.body(one), -3);
        }
    }

    /** BAD is named first, then FULL. */
    private static void badKindAheadOfFull() {
        UNCHANGED.due(World.STORED, "body(-1) of 51", y -> y.body(-1), -1);
        UNCHANGED.due(World.STORED, "body(8) of 51", y -> y.body(8), -1);
    }

    /** THE TRACE ahead of the first act(): empty. */
    private static void noActYet() {
        UNCHANGED.due(World.EMPTY, "trace(0)", y -> y.trace(0), -1);
        UNCHANGED.due(World.EMPTY, "count(6)", y -> y.count(6), 0);
        SecondBest x = ofKinds(0);
        CHECK.due("a body is no act", x.count(6), 0);
        CHECK.due("a body is no act", x.trace(0), -1);
    }

    /** "An ACT (0 .. 3)"; "0, and no TRACE then: no such MATCH, ACT." */
    private static void actsAre0To3() {
        int[] want = {9, 18, 9, 17};
        int[] ran = {1, 2, 1, 4};
        for (int act = 0; act < 4; act++) {
            SecondBest x = ofKinds(0);
            CHECK.due("act(0, " + act + ", 9)", x.act(0, act, 9), want[act]);
            CHECK.due("ran", x.count(6), ran[act]);
        }
        for (int act : new int[] {-1, 4, MIN, MAX}) {
            SecondBest x = ofKinds(0, 7);
            x.act(1, 3, 9);
            CHECK.due("act(1, " + act + ", 9)", x.act(1, act, 9), 0);
            CHECK.due("no trace then", x.count(6), 0);
            CHECK.due("no trace then", x.trace(0), -1);
        }
    }

    /** "0, and no TRACE then: no such MATCH". */
    private static void noSuchBody() {
        for (int n = 0; n <= 50; n += n < 2 || n > 47 ? 1 : 23) {
            SecondBest x = new SecondBest();
            for (int b = 0; b < n; b++) {
                x.body(0);
            }
            for (int body : new int[] {n, -1, 50, MIN, MAX}) {
                CHECK.due("act of the last of " + n, x.act(n - 1, 0, 1), n);
                CHECK.due("ran", x.count(6), n == 0 ? 0 : 1);
                CHECK.due("act(" + body + ", 0, 5) of " + n, x.act(body, 0, 5), 0);
                CHECK.due("no trace then", x.count(6), 0);
                CHECK.due("no trace then", x.trace(0), -1);
            }
        }
    }

    /** What act() answers with 0 takes THE TRACE and nothing else. */
    private static void nothingButTheTraceIsGone() {
        World[] withoutATrace = {World.EMPTY, World.ONE, World.TORN, World.FIVE, World.SIX, World.FULL};
        UNCHANGED.due(withoutATrace, "act(0, 0, 5)", y -> y.act(0, 0, 5), 0);
        for (Look look : new Look[] {Look.FIELD, Look.QUESTIONS, Look.CUP, Look.SHELVES, Look.CHANGES}) {
            SecondBest x = World.FOUR.make();
            CHECK.due("act(8, 0, 5) of eight", x.act(8, 0, 5), 0);
            CHECK.due("act(0, 4, 5)", x.act(0, 4, 5), 0);
            CHECK.that("all else is as it was: " + look, look.at(x).equals(look.at(World.FOUR.make())));
        }
    }

    /** "n its number": 0 and 49 too. */
    private static void numberOfTheLast() {
        SecondBest x = World.STORED.make();
        CHECK.due("beats of 0", x.act(0, 0, 0), 0);
        CHECK.due("beats of 49, a CUP", x.act(49, 0, 0), 52);
        CHECK.due("stands of 48, a MATCH", x.act(48, 1, 0), 96);
        CHECK.due("asks of 48", x.act(48, 2, 0), 48);
        CHECK.due("asks of 48", x.act(48, 2, -1), ~48);
        CHECK.due("tells of 48", x.act(48, 3, 0), 96 - 49);
    }

    /** "x (an int that wraps)". */
    private static void wraps() {
        SecondBest x = ofKinds(6, 1, 2, 3, 4, 5, 0, 7);
        CHECK.due("x + n", x.act(6, 0, MAX), MIN + 5);
        CHECK.due("x + n + 3", x.act(1, 0, MAX), MIN + 3);
        CHECK.due("(x + 0) * 2", x.act(0, 0, MAX), -2);
        CHECK.due("(x + 0) * 2", x.act(0, 0, MIN), 0);
        CHECK.due("((x + 0) * 2) * 2", x.act(0, 1, 1 << 29), MIN);
        CHECK.due("(x + 6) * 2", x.act(6, 1, MAX), 10);
        CHECK.due("-((x + 2) * 2)", x.act(2, 1, (1 << 30) - 2), MIN);
        CHECK.due("x ^ n", x.act(6, 2, MIN), MIN + 6);
        CHECK.due("x ^ n", x.act(6, 2, MAX), MAX - 6);
        CHECK.due("(x ^ 3) * 3", x.act(3, 2, MAX), (MAX - 3) * 3);
        CHECK.due("(x ^ 3) * 3", x.act(3, 2, MIN), MIN + 9);
        CHECK.due("-((x + 1 + 3) * 2)", x.act(3, 1, MAX), -6);
        CHECK.due("(x ^ 4) - (2 + 4 + 3)", x.act(4, 2, MIN), MAX - 4);
        CHECK.due("(-((x + 1 + 5) * 2) - (1 ^ 5) * 3) ^ 5", x.act(5, 3, MAX), -22 ^ 5);
        CHECK.due("(x + 7 + 3) * 2 + (2 ^ 7) - 12", x.act(7, 1, MAX), 18 - 7);
        CHECK.due("(x + 6) * 2 - (1 ^ 6)", x.act(6, 3, MIN), 5);
        CHECK.due("a shelf of it less one", x.act(7, 3, MIN), 20 - 7 - (6 - 12) - 1);
    }

    /** "THE TRACE's i-th body. BAD." */
    private static void traceOfOneBody() {
        SecondBest x = ofKinds(0);
        x.act(0, 0, 1);
        CHECK.due("trace(0)", x.trace(0), 1);
        CHECK.due("trace(1)", x.trace(1), -1);
        CHECK.due("trace(-1)", x.trace(-1), -1);
        for (int i : new int[] {-1, 14, 24, 25, MIN, MAX}) {
            UNCHANGED.due(World.values(), "trace(" + i + ")", y -> y.trace(i), -1);
        }
    }

    /** "numbers of the bodies that ran in the latest act(), as they began; the first 24 are kept": no act has more than 14. */
    private static void longestTrace() {
        int most = 0;
        for (int kind = 0; kind < 8; kind++) {
            for (int act = 0; act < 4; act++) {
                SecondBest x = ofKinds(kind);
                x.act(0, act, 1);
                int ran = x.count(6);
                most = Math.max(most, ran);
                for (int i = 0; i < ran; i++) {
                    CHECK.that("trace(" + i + ") is there", x.trace(i) > 0);
                }
                CHECK.due("one behind the last", x.trace(ran), -1);
            }
        }
        CHECK.due("the longest", most, 14);
        SecondBest x = ofKinds(7);
        x.act(0, 3, 1);
        int[] want = {81, 2, 80, 10, 20, 1, 50, 11, 20, 1, 50, 11, 20, 1};
        for (int i = 0; i < 14; i++) {
            CHECK.due("trace(" + i + ")", x.trace(i), want[i]);
        }
    }

    /** THE TRACE is of "the latest act()" alone. */
    private static void traceOfTheLatest() {
        SecondBest x = ofKinds(7, 0);
        x.act(0, 3, 1);
        x.act(1, 1, 1);
        CHECK.due("two ran", x.count(6), 2);
        CHECK.due("trace(0)", x.trace(0), 10);
        CHECK.due("trace(1)", x.trace(1), 1);
        CHECK.due("trace(2)", x.trace(2), -1);
        x.body(8);
        x.body(3);
        x.keep(0, 0);
        x.taken(0, 0);
        x.trace(99);
        CHECK.due("other calls leave it", x.count(6), 2);
        CHECK.due("other calls leave it", x.trace(0), 10);
    }
}
