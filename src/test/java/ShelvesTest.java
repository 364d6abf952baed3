/** Promises 4 and 33 to 38: matches, keep, row, put, element, shift, taken. */
public final class ShelvesTest {
    private static final Check CHECK = new Check();
    private static final long NONE = Long.MIN_VALUE;

    public static void main(String[] args) {
        kept();
        rows();
        narrowed();
        shifted();
        taken();
        matches();
        CHECK.end();
    }

    private static void kept() {
        SecondBest x = new SecondBest();
        CHECK.due("no such body", x.keep(0, 0), -1);
        x.body(0);
        x.body(1);
        int[][] bad = {{-1, 0}, {6, 0}, {0, 2}, {0, -2}, {6, -1}, {Integer.MIN_VALUE, 0}, {0, Integer.MAX_VALUE}};
        for (int[] b : bad) {
            CHECK.due("keep(" + b[0] + ", " + b[1] + ")", x.keep(b[0], b[1]), -1);
        }
        CHECK.due("keep(0, 1)", x.keep(0, 1), 1);
        CHECK.due("keep(5, 1)", x.keep(5, 1), 1);
        CHECK.due("it is there", x.taken(5, 0), 1);
        CHECK.due("keep(5, -1)", x.keep(5, -1), 1);
        CHECK.due("it is gone", x.taken(5, 0), -11);
        CHECK.due("nothing again", x.keep(5, -1), 1);
        CHECK.due("a row in its stead", x.row(0, 2, 3), 1);
        CHECK.due("no match now", x.taken(0, 0), -12);
        CHECK.due("a match in its stead", x.keep(0, 0), 1);
        CHECK.due("no row now", x.put(0, 0, 1), -12);
        CHECK.due("no row now", x.element(0, 0), NONE);
    }

    private static void rows() {
        SecondBest x = new SecondBest();
        int[][] bad = {{-1, 0, 5}, {6, 0, 5}, {0, -1, 5}, {0, 5, 5}, {0, 0, 61}, {0, 0, Integer.MAX_VALUE}, {6, 0, -1},
            {0, 5, -1}};
        for (int[] b : bad) {
            CHECK.due("row(" + b[0] + ", " + b[1] + ", " + b[2] + ")", x.row(b[0], b[1], b[2]), -1);
        }
        CHECK.due("a size below 0", x.row(0, 0, -1), -14);
        CHECK.due("a size below 0", x.row(0, 4, Integer.MIN_VALUE), -14);
        CHECK.due("nothing is there", x.put(0, 0, 1), -11);
        CHECK.due("none of no elements", x.row(0, 3, 0), 1);
        CHECK.due("no place", x.put(0, 0, 1), -13);
        CHECK.due("no place", x.element(0, 0), NONE);
        CHECK.due("sixty", x.row(0, 3, 60), 1);
        CHECK.due("put(0, 59, 7)", x.put(0, 59, 7), 1);
        CHECK.due("element(0, 59)", x.element(0, 59), 7);
        CHECK.due("element(0, 58)", x.element(0, 58), 0);
        int[][] out = {{0, 60}, {0, -1}, {0, Integer.MAX_VALUE}, {0, Integer.MIN_VALUE}};
        for (int[] o : out) {
            CHECK.due("put(" + o[0] + ", " + o[1] + ")", x.put(o[0], o[1], 1), -13);
            CHECK.due("element(" + o[0] + ", " + o[1] + ")", x.element(o[0], o[1]), NONE);
        }
        CHECK.due("put(-1, 0, 1)", x.put(-1, 0, 1), -1);
        CHECK.due("put(6, 0, 1)", x.put(6, 0, 1), -1);
        CHECK.due("element(-1, 0)", x.element(-1, 0), NONE);
        CHECK.due("element(6, 0)", x.element(6, 0), NONE);
        CHECK.due("element(1, 0)", x.element(1, 0), NONE);
        CHECK.due("a new row", x.row(0, 3, 60), 1);
        CHECK.due("is 0 at first", x.element(0, 59), 0);
        x.put(0, 0, 9);
        CHECK.due("a refused row changes nothing", x.row(0, 0, -5), -14);
        CHECK.due("element(0, 0)", x.element(0, 0), 9);
        CHECK.due("a shorter row", x.row(0, 3, 2), 1);
        CHECK.due("element(0, 2)", x.element(0, 2), NONE);
    }

    private static void narrowed() {
        SecondBest x = new SecondBest();
        long[] put = {0, 1, -1, 2, 127, 128, 255, 256, -129, 32768, 65536, 1L << 31, 1L << 32, (1L << 32) + 5,
            Long.MIN_VALUE, Long.MAX_VALUE};
        for (int sort = 0; sort < 5; sort++) {
            x.row(sort, sort, 3);
            for (long v : put) {
                long want = sort == 0 ? (byte) v : sort == 1 ? (short) v : sort == 2 ? (int) v : sort == 3 ? v : v != 0 ? 1 : 0;
                CHECK.due("put(" + sort + ", 1, " + v + ")", x.put(sort, 1, v), 1);
                CHECK.due("element of sort " + sort, x.element(sort, 1), want);
                CHECK.due("its neighbour", x.element(sort, 0), 0);
                CHECK.due("its neighbour", x.element(sort, 2), 0);
            }
        }
    }

    private static SecondBest numbered(int sort, int length) {
        SecondBest x = new SecondBest();
        x.body(0);
        x.row(0, sort, length);
        for (int i = 0; i < length; i++) {
            x.put(0, i, i + 1);
        }
        return x;
    }

    private static void shifted() {
        SecondBest x = numbered(2, 6);
        CHECK.due("onto itself, forward", x.shift(0, 0, 0, 2, 4), 4);
        long[] forward = {1, 2, 1, 2, 3, 4};
        for (int i = 0; i < 6; i++) {
            CHECK.due("forward " + i, x.element(0, i), forward[i]);
        }
        x = numbered(2, 6);
        CHECK.due("onto itself, backward", x.shift(0, 2, 0, 0, 4), 4);
        long[] backward = {3, 4, 5, 6, 5, 6};
        for (int i = 0; i < 6; i++) {
            CHECK.due("backward " + i, x.element(0, i), backward[i]);
        }
        x.row(1, 2, 4);
        CHECK.due("to another", x.shift(0, 1, 1, 0, 4), 4);
        CHECK.due("element(1, 3)", x.element(1, 3), 5);
        CHECK.due("it stays where it was", x.element(0, 4), 5);
        CHECK.due("none", x.shift(0, 6, 1, 4, 0), 0);
        x.keep(2, 0);
        x.row(3, 1, 4);
        int[][] refused = {{-1, 0, 0, 0, 1, -1}, {6, 0, 0, 0, 1, -1}, {0, 0, 6, 0, 1, -1}, {0, 0, -1, 0, 1, -1},
            {4, 0, 0, 0, 1, -11}, {0, 0, 4, 0, 1, -11}, {2, 0, 4, 0, 1, -11}, {4, 0, 2, 0, 1, -11}, {2, 0, 0, 0, 1, -12},
            {0, 0, 2, 0, 1, -12}, {2, 0, 2, 0, 1, -12}, {0, 0, 3, 0, 1, -12}, {0, 9, 3, 9, 1, -12}, {0, -1, 1, 0, 1, -13},
            {0, 0, 1, -1, 1, -13}, {0, 0, 1, 0, 5, -13}, {0, 3, 0, 0, 4, -13}, {0, 0, 1, 0, -1, -13}, {0, 7, 1, 0, 0, -13},
            {0, 0, 1, 5, 0, -13}, {0, 1, 1, 0, Integer.MAX_VALUE, -13}, {0, Integer.MAX_VALUE, 1, 0, 1, -13},
            {0, Integer.MIN_VALUE, 1, 0, 1, -13}, {0, 0, 1, Integer.MAX_VALUE, 2, -13}, {0, 0, 1, 0, Integer.MIN_VALUE, -13}};
        for (int[] r : refused) {
            CHECK.due("shift(" + r[0] + ", " + r[1] + ", " + r[2] + ", " + r[3] + ", " + r[4] + ")",
                x.shift(r[0], r[1], r[2], r[3], r[4]), r[5]);
        }
        for (int i = 0; i < 4; i++) {
            CHECK.due("a refusal changes nothing", x.element(1, i), new long[] {4, 5, 6, 5}[i]);
        }
    }

    private static void taken() {
        int[][] under = {{0}, {1, 0}, {2, 0}, {3, 2, 0}, {4, 1, 0}, {5, 3, 2, 0}, {6, 0}, {7, 4, 1, 0}};
        SecondBest x = new SecondBest();
        for (int kind = 0; kind < 8; kind++) {
            x.body(kind);
            x.keep(2, kind);
            for (int k = 0; k < 8; k++) {
                int want = -12;
                for (int u : under[kind]) {
                    want = u == k ? kind : want;
                }
                CHECK.due("a " + kind + " taken for " + k, x.taken(2, k), want);
            }
        }
        CHECK.due("taken(-1, 0)", x.taken(-1, 0), -1);
        CHECK.due("taken(6, 0)", x.taken(6, 0), -1);
        CHECK.due("taken(2, 8)", x.taken(2, 8), -1);
        CHECK.due("taken(2, -1)", x.taken(2, -1), -1);
        CHECK.due("taken(0, 8), BAD first", x.taken(0, 8), -1);
        CHECK.due("nothing is there", x.taken(0, 0), -11);
        x.row(0, 0, 4);
        CHECK.due("a row", x.taken(0, 0), -12);
    }

    private static SecondBest rowOf(int length, int... values) {
        SecondBest x = new SecondBest();
        for (int p = 0; p < 4; p++) {
            x.player(p);
        }
        x.row(1, 0, length);
        for (int i = 0; i < values.length; i++) {
            x.put(1, i, values[i]);
        }
        return x;
    }

    private static void matches() {
        SecondBest x = rowOf(7, 0, 1, 2, 3, 3, 0, 1);
        CHECK.due("two of them", x.matches(1, 0, 2), 2);
        CHECK.due("who won", x.of(1, 10), 2);
        CHECK.due("who lost", x.of(1, 11), 3);
        CHECK.due("it counts", x.of(1, 12), 1);
        CHECK.due("the row ends within a two", x.matches(1, 4, 12), 1);
        CHECK.due("from an odd place", x.matches(1, 1, 3), 1);
        CHECK.due("1 beat 2", x.of(3, 10), 1);
        CHECK.due("3 and 3 is not so", x.count(1), 4);
        CHECK.due("from the last", x.matches(1, 6, 1), 0);
        CHECK.due("from behind the last", x.matches(1, 7, 1), 0);
        CHECK.due("from far behind", x.matches(1, Integer.MAX_VALUE, 1), 0);
        CHECK.due("from ahead of the first", x.matches(1, -1, 1), 0);
        CHECK.due("nothing is there", x.matches(0, 0, 1), 0);
        int[][] bad = {{-1, 0, 1}, {6, 0, 1}, {1, 0, 0}, {1, 0, 13}, {1, 0, -1}, {0, 0, 13}};
        for (int[] b : bad) {
            CHECK.due("matches(" + b[0] + ", " + b[1] + ", " + b[2] + ")", x.matches(b[0], b[1], b[2]), -1);
        }
        x.row(0, 2, 4);
        CHECK.due("a row of ints", x.matches(0, 0, 1), -12);
        CHECK.due("a row of ints, BAD first", x.matches(0, 0, 13), -1);
        x.row(0, 4, 4);
        CHECK.due("a row of booleans", x.matches(0, 0, 1), -12);
        x.body(0);
        x.keep(0, 0);
        CHECK.due("a match", x.matches(0, 0, 1), -12);
        oddOnes();
        untilFull();
    }

    private static void oddOnes() {
        CHECK.due("4 is nobody", rowOf(6, 0, 1, 0, 4, 1, 2).matches(1, 0, 3), 1);
        CHECK.due("-1 is nobody", rowOf(6, 0, 1, 1, 2, -1, 2).matches(1, 0, 3), 2);
        CHECK.due("12 is nobody", rowOf(2, 0, 12).matches(1, 0, 1), 0);
        CHECK.due("-8 behind 1 is nobody", rowOf(2, 1, -8).matches(1, 0, 1), 0);
        CHECK.due("one and the same", rowOf(4, 1, 1, 0, 1).matches(1, 0, 2), 0);
    }

    private static void untilFull() {
        SecondBest x = rowOf(60, 0, 1, 1, 2, 2, 3, 0, 2, 0, 3, 1, 3, 0, 1, 1, 2, 2, 3, 0, 2);
        CHECK.due("ten", x.matches(1, 0, 10), 10);
        CHECK.due("two more and FULL", x.matches(1, 0, 5), 2);
        CHECK.due("FULL at once", x.matches(1, 0, 5), 0);
        CHECK.due("twelve", x.count(1), 12);
    }
}
