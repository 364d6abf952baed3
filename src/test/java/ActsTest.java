/** Promises 30 to 32: body, act, trace. */
public final class ActsTest {
    private static final Check CHECK = new Check();

    public static void main(String[] args) {
        bodies();
        acts();
        traces();
        CHECK.end();
    }

    private static void bodies() {
        SecondBest x = new SecondBest();
        int[] bad = {-1, 8, 100, Integer.MIN_VALUE, Integer.MAX_VALUE};
        for (int kind : bad) {
            CHECK.due("body(" + kind + ")", x.body(kind), -1);
        }
        for (int n = 0; n < 50; n++) {
            CHECK.due("body " + n, x.body(n % 8), n);
            CHECK.due("bodies", x.count(5), n + 1);
        }
        CHECK.due("the 51st", x.body(0), -3);
        CHECK.due("BAD stands ahead of FULL", x.body(8), -1);
        CHECK.due("fifty", x.count(5), 50);
    }

    private static void act(SecondBest x, int body, int act, int v, int want, int... trace) {
        String call = "act(" + body + ", " + act + ", " + v + ")";
        CHECK.due(call, x.act(body, act, v), want);
        CHECK.due(call + ": how many ran", x.count(6), trace.length);
        for (int i = 0; i < trace.length; i++) {
            CHECK.due(call + ": trace(" + i + ")", x.trace(i), trace[i]);
        }
        CHECK.due(call + ": trace(-1)", x.trace(-1), -1);
        CHECK.due(call + ": trace behind the last", x.trace(trace.length), -1);
    }

    private static void acts() {
        SecondBest x = new SecondBest();
        for (int kind = 0; kind < 8; kind++) {
            x.body(kind);
        }
        act(x, 0, 0, 5, 5, 1);
        act(x, 0, 1, 5, 10, 10, 1);
        act(x, 0, 2, 5, 5, 11);
        act(x, 0, 3, 5, 9, 2, 10, 1, 11);
        act(x, 1, 0, 5, 9, 20, 1);
        act(x, 1, 1, 5, 18, 10, 20, 1);
        act(x, 1, 2, 5, 4, 11);
        act(x, 1, 3, 5, 18, 2, 10, 20, 1, 11);
        act(x, 2, 0, 5, 7, 1);
        act(x, 2, 1, 5, -14, 30, 10, 1);
        act(x, 2, 2, 5, 7, 11);
        act(x, 2, 3, 5, -17, 2, 30, 10, 1, 11);
        act(x, 3, 1, 5, -18, 41, 30, 10, 1);
        act(x, 3, 2, 5, 18, 40, 11);
        act(x, 3, 3, 5, -24, 2, 41, 30, 10, 1, 40, 11);
        act(x, 4, 0, 5, 12, 20, 1);
        act(x, 4, 1, 5, 24, 10, 20, 1);
        act(x, 4, 2, 5, 1 - 9, 50, 11, 20, 1);
        act(x, 4, 3, 5, 24 - (5 - 9), 2, 10, 20, 1, 50, 11, 20, 1);
        act(x, 5, 1, 5, -22, 41, 30, 10, 1);
        act(x, 5, 2, 5, 0, 40, 11);
        act(x, 5, 3, 5, (-22 - 12) ^ 5, 60, 2, 41, 30, 10, 1, 40, 11);
        act(x, 6, 0, 5, 22, 70, 1);
        act(x, 6, 1, 5, 44, 10, 70, 1);
        act(x, 6, 3, 5, 44 - 7, 2, 10, 70, 1, 11);
        act(x, 7, 0, 5, 15, 20, 1);
        act(x, 7, 1, 5, 30 + 5 - 12, 80, 10, 20, 1, 50, 11, 20, 1);
        act(x, 7, 2, 5, 2 - 12, 50, 11, 20, 1);
        act(x, 7, 3, 5, 30 + 5 - 12 - (6 - 12) - 1, 81, 2, 80, 10, 20, 1, 50, 11, 20, 1, 50, 11, 20, 1);
        act(x, 0, 1, Integer.MAX_VALUE, -2, 10, 1);
        act(x, 3, 1, Integer.MAX_VALUE, -((Integer.MIN_VALUE + 3) * 2), 41, 30, 10, 1);
    }

    private static void traces() {
        SecondBest x = new SecondBest();
        CHECK.due("no such body", x.act(0, 0, 5), 0);
        x.body(1);
        int[][] bad = {{-1, 0}, {1, 0}, {0, -1}, {0, 4}, {Integer.MIN_VALUE, 0}, {0, Integer.MAX_VALUE}};
        for (int[] b : bad) {
            CHECK.due("act(0, 0, 1)", x.act(0, 0, 1), 4);
            CHECK.due("trace(0)", x.trace(0), 20);
            CHECK.due("trace(1)", x.trace(1), 1);
            CHECK.due("trace(2)", x.trace(2), -1);
            act(x, b[0], b[1], 5, 0);
        }
        CHECK.due("trace(MAX)", x.trace(Integer.MAX_VALUE), -1);
    }
}
