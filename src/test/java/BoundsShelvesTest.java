/** The ends that promises 4 and 33 to 38 and their terms name: matches, keep, row, put, element, shift, taken. */
public final class BoundsShelvesTest {
    private static final Check CHECK = new Check();
    private static final Unchanged UNCHANGED = new Unchanged(CHECK);
    private static final int MIN = Integer.MIN_VALUE, MAX = Integer.MAX_VALUE;
    private static final long NONE = Long.MIN_VALUE;
    private static final int[] NO_SHELVES = {-1, 6, MIN, MAX};
    private static final int[] NO_PLACES = {-1, 60, 61, MIN, MAX};

    public static void main(String[] args) {
        nothingAtFirst();
        shelvesAre0To5();
        keepsABody();
        keepsNothing();
        sortsAre0To4();
        rowsOf0To60();
        sizeBelow0();
        badAheadOfSizeBelow0();
        zeroAtFirst();
        elementsAre0ToTheLast();
        nothingIsThere();
        aMatchIsNoRow();
        lowestBits();
        booleans();
        leastLongIsAnElement();
        shiftsFromAndToShelves();
        shiftOfNothing();
        shiftOfNoRows();
        shiftOfUnlikeSorts();
        shiftWithinBothRows();
        shiftOfNone();
        shiftOntoItself();
        takenForKinds0To7();
        takenFromNothing();
        takenOfAnotherKind();
        matchesAre1To12();
        matchesFromNoShelf();
        matchesFromNoRowOfBytes();
        matchesFromAMissingRow();
        matchesUntilTheRowEnds();
        matchesFromAPlace();
        matchesUntilOneIsNotSo();
        matchesUntilFull();
        CHECK.end();
    }

    /** "SHELVES 0 .. 5 each hold nothing (at first)". */
    private static void nothingAtFirst() {
        for (int s = 0; s < 6; s++) {
            int shelf = s;
            UNCHANGED.due(World.EMPTY, "put(" + s + ", 0, 1)", y -> y.put(shelf, 0, 1), -11);
            UNCHANGED.due(World.EMPTY, "element(" + s + ", 0)", y -> y.element(shelf, 0), NONE);
            UNCHANGED.due(World.EMPTY, "taken(" + s + ", 0)", y -> y.taken(shelf, 0), -11);
            UNCHANGED.due(World.EMPTY, "shift(" + s + ", 0, " + s + ", 0, 0)", y -> y.shift(shelf, 0, shelf, 0, 0), -11);
            UNCHANGED.due(World.EMPTY, "matches(" + s + ", 0, 1)", y -> y.matches(shelf, 0, 1), 0);
        }
    }

    /** SHELVES "0 .. 5"; "BAD (-1): no such number". */
    private static void shelvesAre0To5() {
        SecondBest x = new SecondBest();
        for (int shelf = 0; shelf < 6; shelf++) {
            CHECK.due("row(" + shelf + ", 3, 60)", x.row(shelf, 3, 60), 1);
            for (int i = 0; i < 60; i += 59) {
                CHECK.due("put", x.put(shelf, i, 100 * shelf + i), 1);
            }
        }
        for (int shelf = 0; shelf < 6; shelf++) {
            CHECK.due("each has its own", x.element(shelf, 0), 100 * shelf);
            CHECK.due("each has its own", x.element(shelf, 59), 100 * shelf + 59);
        }
        for (int shelf : NO_SHELVES) {
            UNCHANGED.due(World.values(), "keep(" + shelf + ", -1)", y -> y.keep(shelf, -1), -1);
            UNCHANGED.due(World.STORED, "keep(" + shelf + ", 0)", y -> y.keep(shelf, 0), -1);
            UNCHANGED.due(World.values(), "row(" + shelf + ", 0, 1)", y -> y.row(shelf, 0, 1), -1);
            UNCHANGED.due(World.values(), "put(" + shelf + ", 0, 1)", y -> y.put(shelf, 0, 1), -1);
            UNCHANGED.due(World.values(), "element(" + shelf + ", 0)", y -> y.element(shelf, 0), NONE);
            UNCHANGED.due(World.values(), "taken(" + shelf + ", 0)", y -> y.taken(shelf, 0), -1);
        }
    }

    /** "or a MATCH: 1. BAD." */
    private static void keepsABody() {
        for (int n = 0; n <= 50; n += n < 2 || n > 47 ? 1 : 23) {
            SecondBest x = new SecondBest();
            for (int b = 0; b < n; b++) {
                x.body(5);
            }
            CHECK.due("one behind the last of " + n, x.keep(5, n), -1);
            CHECK.due("nothing came", x.taken(5, 0), -11);
            if (n > 0) {
                CHECK.due("the last of " + n, x.keep(5, n - 1), 1);
                CHECK.due("it came", x.taken(5, 0), 5);
            }
        }
        for (int body : new int[] {-2, 50, MIN, MAX}) {
            UNCHANGED.due(World.values(), "keep(0, " + body + ")", y -> y.keep(0, body), -1);
            UNCHANGED.due(World.FOUR, "keep(2, " + body + ")", y -> y.keep(2, body), -1);
        }
        UNCHANGED.due(World.FOUR, "keep(2, 8)", y -> y.keep(2, 8), -1);
    }

    /** "A SHELF holds nothing (body -1)". */
    private static void keepsNothing() {
        UNCHANGED.due(World.EMPTY, "keep(0, -1)", y -> y.keep(0, -1), 1);
        UNCHANGED.due(World.EMPTY, "keep(5, -1)", y -> y.keep(5, -1), 1);
        SecondBest x = World.FOUR.make();
        for (int shelf = 0; shelf < 6; shelf++) {
            CHECK.due("keep(" + shelf + ", -1)", x.keep(shelf, -1), 1);
            CHECK.due("nothing is there", x.taken(shelf, 0), -11);
            CHECK.due("nothing is there", x.put(shelf, 0, 1), -11);
        }
        CHECK.due("the bodies stay", x.count(5), 8);
    }

    /** "of 0 bytes, 1 shorts, 2 ints, 3 longs, 4 booleans"; "BAD (sort ..)". */
    private static void sortsAre0To4() {
        long[] kept = {-1, -1, -1, Long.MAX_VALUE, 1};
        for (int sort = 0; sort < 5; sort++) {
            SecondBest x = new SecondBest();
            CHECK.due("row(0, " + sort + ", 1)", x.row(0, sort, 1), 1);
            x.put(0, 0, Long.MAX_VALUE);
            CHECK.due("all bits but the highest", x.element(0, 0), kept[sort]);
        }
        for (int sort : new int[] {-1, 5, 6, MIN, MAX}) {
            UNCHANGED.due(World.values(), "row(0, " + sort + ", 1)", y -> y.row(0, sort, 1), -1);
            UNCHANGED.due(World.FOUR, "row(1, " + sort + ", 0)", y -> y.row(1, sort, 0), -1);
        }
    }

    /** "of 0 .. 60 elements"; "BAD (.. n above 60)". */
    private static void rowsOf0To60() {
        for (int sort = 0; sort < 5; sort++) {
            for (int n = 0; n <= 60; n += n < 2 || n > 57 ? 1 : 28) {
                SecondBest x = new SecondBest();
                CHECK.due("row(5, " + sort + ", " + n + ")", x.row(5, sort, n), 1);
                CHECK.due("the last", x.put(5, n - 1, 1), n == 0 ? -13 : 1);
                CHECK.due("one behind the last", x.put(5, n, 1), -13);
                CHECK.due("the last", x.element(5, n - 1), n == 0 ? NONE : 1);
                CHECK.due("one behind the last", x.element(5, n), NONE);
            }
        }
        for (int n : new int[] {61, 62, 120, MAX}) {
            for (int s = 0; s < 5; s++) {
                int sort = s;
                UNCHANGED.due(World.EMPTY, "row(0, " + s + ", " + n + ")", y -> y.row(0, sort, n), -1);
            }
            UNCHANGED.due(World.FOUR, "row(3, 3, " + n + ")", y -> y.row(3, 3, n), -1);
        }
    }

    /** "-14 a size below 0." */
    private static void sizeBelow0() {
        for (int n : new int[] {-1, -2, -60, -61, MIN}) {
            for (int s = 0; s < 5; s++) {
                int sort = s;
                UNCHANGED.due(World.EMPTY, "row(0, " + s + ", " + n + ")", y -> y.row(0, sort, n), -14);
            }
            UNCHANGED.due(World.FOUR, "row(1, 0, " + n + ")", y -> y.row(1, 0, n), -14);
            UNCHANGED.due(World.FOUR, "row(3, 3, " + n + ")", y -> y.row(3, 3, n), -14);
        }
    }

    /** BAD is named first, then -14. */
    private static void badAheadOfSizeBelow0() {
        UNCHANGED.due(World.FOUR, "row(6, 0, -1)", y -> y.row(6, 0, -1), -1);
        UNCHANGED.due(World.FOUR, "row(-1, 0, -1)", y -> y.row(-1, 0, -1), -1);
        UNCHANGED.due(World.FOUR, "row(0, 5, -1)", y -> y.row(0, 5, -1), -1);
        UNCHANGED.due(World.FOUR, "row(0, -1, -1)", y -> y.row(0, -1, -1), -1);
    }

    /** "0 at first (false)". */
    private static void zeroAtFirst() {
        for (int sort = 0; sort < 5; sort++) {
            SecondBest x = new SecondBest();
            for (int time = 0; time < 2; time++) {
                x.row(2, sort, 60);
                for (int i = 0; i < 60; i++) {
                    CHECK.due("element " + i + " at first", x.element(2, i), 0);
                    x.put(2, i, 1);
                }
            }
            x.row(2, sort, 3);
            x.row(2, sort, 60);
            CHECK.due("behind a shorter row", x.element(2, 59), 0);
            CHECK.due("behind a shorter row", x.element(2, 2), 0);
        }
    }

    /** "-13 a place that is not there". */
    private static void elementsAre0ToTheLast() {
        for (int i : NO_PLACES) {
            for (int s = 0; s < 5; s++) {
                int shelf = s;
                UNCHANGED.due(World.STORED, "put(" + s + ", " + i + ", 1)", y -> y.put(shelf, i, 1), -13);
                UNCHANGED.due(World.STORED, "element(" + s + ", " + i + ")", y -> y.element(shelf, i), NONE);
            }
        }
        UNCHANGED.due(World.FOUR, "put(2, 6, 1) of six", y -> y.put(2, 6, 1), -13);
        UNCHANGED.due(World.FOUR, "put(4, 2, 1) of two", y -> y.put(4, 2, 1), -13);
        UNCHANGED.due(World.FOUR, "put(5, 0, 1) of none", y -> y.put(5, 0, 1), -13);
        UNCHANGED.due(World.FOUR, "element(5, 0) of none", y -> y.element(5, 0), NONE);
        UNCHANGED.due(World.FOUR, "element(3, 3) of three", y -> y.element(3, 3), NONE);
    }

    /** "-11 nothing is there where something is wanted"; it stands ahead of -13. */
    private static void nothingIsThere() {
        for (int i : new int[] {0, 59, -1, 60, MIN, MAX}) {
            UNCHANGED.due(World.FOUR, "put(0, " + i + ", 1)", y -> y.put(0, i, 1), -11);
            UNCHANGED.due(World.FOUR, "element(0, " + i + ")", y -> y.element(0, i), NONE);
        }
        UNCHANGED.due(World.FOUR, "put(6, -1, 1): BAD first", y -> y.put(6, -1, 1), -1);
        UNCHANGED.due(World.FOUR, "put(-1, 99, 1): BAD first", y -> y.put(-1, 99, 1), -1);
    }

    /** "-12 it is of another kind"; it stands ahead of -13. */
    private static void aMatchIsNoRow() {
        for (int i : new int[] {0, 59, -1, 60, MIN, MAX}) {
            UNCHANGED.due(World.FOUR, "put(1, " + i + ", 1)", y -> y.put(1, i, 1), -12);
            UNCHANGED.due(World.FOUR, "element(1, " + i + ")", y -> y.element(1, i), NONE);
        }
    }

    private static void kept(int sort, long put, long want) {
        SecondBest x = new SecondBest();
        x.row(0, sort, 3);
        CHECK.due("put " + put + " in sort " + sort, x.put(0, 1, put), 1);
        CHECK.due(put + " in sort " + sort, x.element(0, 1), want);
        CHECK.due("ahead of it", x.element(0, 0), 0);
        CHECK.due("behind it", x.element(0, 2), 0);
    }

    /** "what is put in keeps its lowest bits". */
    private static void lowestBits() {
        long[] ends = {1L << 7, 1L << 15, 1L << 31};
        for (int sort = 0; sort < 3; sort++) {
            long end = ends[sort];
            kept(sort, end - 1, end - 1);
            kept(sort, end, -end);
            kept(sort, -end, -end);
            kept(sort, -end - 1, end - 1);
            kept(sort, 2 * end - 1, -1);
            kept(sort, 2 * end, 0);
            kept(sort, 2 * end + 1, 1);
            kept(sort, Long.MAX_VALUE, -1);
            kept(sort, Long.MIN_VALUE, 0);
        }
        kept(3, Long.MAX_VALUE, Long.MAX_VALUE);
        kept(3, Long.MIN_VALUE + 1, Long.MIN_VALUE + 1);
        kept(3, 1L << 32, 1L << 32);
        kept(3, -1, -1);
    }

    /** "a boolean: whether it is not 0; 1 or 0". */
    private static void booleans() {
        for (long v : new long[] {1, -1, 2, 256, 1L << 32, Long.MIN_VALUE, Long.MAX_VALUE}) {
            kept(4, v, 1);
        }
        kept(4, 0, 0);
        SecondBest x = new SecondBest();
        x.row(0, 4, 1);
        x.put(0, 0, 7);
        x.put(0, 0, 0);
        CHECK.due("0 again", x.element(0, 0), 0);
    }

    /** Long.MIN_VALUE is an element of a ROW of longs as well. */
    private static void leastLongIsAnElement() {
        SecondBest x = new SecondBest();
        x.row(0, 3, 2);
        CHECK.due("put", x.put(0, 0, Long.MIN_VALUE), 1);
        CHECK.due("the element", x.element(0, 0), Long.MIN_VALUE);
        CHECK.due("comes to the other", x.shift(0, 0, 0, 1, 1), 1);
        CHECK.due("the other", x.element(0, 1), Long.MIN_VALUE);
        x.put(0, 1, 5);
        CHECK.due("no refusal: it can be overwritten", x.element(0, 1), 5);
    }

    /** shift: "BAD", ahead of all others. */
    private static void shiftsFromAndToShelves() {
        for (int shelf : NO_SHELVES) {
            UNCHANGED.due(World.values(), "shift(" + shelf + ", 0, 0, 0, 0)", y -> y.shift(shelf, 0, 0, 0, 0), -1);
            UNCHANGED.due(World.values(), "shift(0, 0, " + shelf + ", 0, 0)", y -> y.shift(0, 0, shelf, 0, 0), -1);
            UNCHANGED.due(World.FOUR, "shift(" + shelf + ", -1, 1, -1, -1)", y -> y.shift(shelf, -1, 1, -1, -1), -1);
            UNCHANGED.due(World.FOUR, "shift(1, -1, " + shelf + ", -1, -1)", y -> y.shift(1, -1, shelf, -1, -1), -1);
        }
        SecondBest x = new SecondBest();
        x.row(0, 0, 1);
        x.row(5, 0, 1);
        x.put(0, 0, 9);
        CHECK.due("from the first shelf to the last", x.shift(0, 0, 5, 0, 1), 1);
        CHECK.due("it came", x.element(5, 0), 9);
    }

    /** "-11 (either)", ahead of -12 and -13. */
    private static void shiftOfNothing() {
        // 0 holds nothing, 1 a match, 2 bytes, 3 longs.
        for (int other : new int[] {0, 1, 2, 3}) {
            UNCHANGED.due(World.FOUR, "shift(0, 0, " + other + ", 0, 1)", y -> y.shift(0, 0, other, 0, 1), -11);
            UNCHANGED.due(World.FOUR, "shift(" + other + ", 0, 0, 0, 1)", y -> y.shift(other, 0, 0, 0, 1), -11);
            UNCHANGED.due(World.FOUR, "shift(0, -1, " + other + ", 99, -1)", y -> y.shift(0, -1, other, 99, -1), -11);
            UNCHANGED.due(World.FOUR, "shift(" + other + ", 99, 0, -1, -1)", y -> y.shift(other, 99, 0, -1, -1), -11);
        }
    }

    /** "-12 (no ROWS ..)", ahead of -13. */
    private static void shiftOfNoRows() {
        for (int other : new int[] {1, 2, 3, 4, 5}) {
            UNCHANGED.due(World.FOUR, "shift(1, 0, " + other + ", 0, 0)", y -> y.shift(1, 0, other, 0, 0), -12);
            UNCHANGED.due(World.FOUR, "shift(" + other + ", 0, 1, 0, 0)", y -> y.shift(other, 0, 1, 0, 0), -12);
            UNCHANGED.due(World.FOUR, "shift(1, -1, " + other + ", 99, -1)", y -> y.shift(1, -1, other, 99, -1), -12);
            UNCHANGED.due(World.FOUR, "shift(" + other + ", 99, 1, -1, 61)", y -> y.shift(other, 99, 1, -1, 61), -12);
        }
    }

    /** "-12 (.. or of unlike sorts)", ahead of -13. */
    private static void shiftOfUnlikeSorts() {
        for (int a = 0; a < 5; a++) {
            for (int b = 0; b < 5; b++) {
                int one = a;
                int other = b;
                String of = "(" + a + ", 0, " + b + ", 0, ";
                if (a != b) {
                    UNCHANGED.due(World.STORED, "shift" + of + "1)", y -> y.shift(one, 0, other, 0, 1), -12);
                    UNCHANGED.due(World.STORED, "shift" + of + "0)", y -> y.shift(one, 0, other, 0, 0), -12);
                    UNCHANGED.due(World.STORED, "shift" + of + "61)", y -> y.shift(one, 0, other, 0, 61), -12);
                    UNCHANGED.due(World.STORED, "shift" + of + "-1)", y -> y.shift(one, 0, other, 0, -1), -12);
                } else {
                    UNCHANGED.due(World.STORED, "shift" + of + "60)", y -> y.shift(one, 0, other, 0, 60), 60);
                }
            }
        }
    }

    private static SecondBest numbered(int first, int second) {
        SecondBest x = new SecondBest();
        x.row(0, 2, first);
        x.row(1, 2, second);
        for (int i = 0; i < first; i++) {
            x.put(0, i, i + 1);
        }
        return x;
    }

    /** "-13 a place that is not there": of either ROW, at both ends, and where a sum passes the end of int. */
    private static void shiftWithinBothRows() {
        int[] some = {-1, 0, 1, 2, 3, 4, 5, 6, 7, MIN, MAX, MAX - 1};
        for (int i : some) {
            for (int j : some) {
                for (int n : some) {
                    SecondBest x = numbered(6, 4);
                    boolean is = i >= 0 && j >= 0 && n >= 0 && (long) i + n <= 6 && (long) j + n <= 4;
                    String call = "shift(0, " + i + ", 1, " + j + ", " + n + ")";
                    CHECK.due(call, x.shift(0, i, 1, j, n), is ? n : -13);
                    for (int e = 0; e < 4; e++) {
                        boolean came = is && e >= j && e < j + n;
                        CHECK.due(call + ": element " + e, x.element(1, e), came ? i + e - j + 1 : 0);
                    }
                }
            }
        }
        UNCHANGED.due(World.FOUR, "shift(2, 0, 2, 1, 6)", y -> y.shift(2, 0, 2, 1, 6), -13);
        UNCHANGED.due(World.FOUR, "shift(2, 1, 2, 0, 6)", y -> y.shift(2, 1, 2, 0, 6), -13);
        UNCHANGED.due(World.FOUR, "shift(2, 1, 2, 0, MAX)", y -> y.shift(2, 1, 2, 0, MAX), -13);
        UNCHANGED.due(World.FOUR, "shift(2, 0, 2, 0, -1)", y -> y.shift(2, 0, 2, 0, -1), -13);
        UNCHANGED.due(World.FOUR, "shift(2, 7, 2, 0, 0)", y -> y.shift(2, 7, 2, 0, 0), -13);
        UNCHANGED.due(World.FOUR, "shift(2, 0, 2, 7, 0)", y -> y.shift(2, 0, 2, 7, 0), -13);
        UNCHANGED.due(World.FOUR, "shift(2, -1, 2, 0, 0)", y -> y.shift(2, -1, 2, 0, 0), -13);
        UNCHANGED.due(World.FOUR, "shift(5, 0, 5, 0, 1) of none", y -> y.shift(5, 0, 5, 0, 1), -13);
    }

    /** "n elements .. : n": none of them, too. */
    private static void shiftOfNone() {
        UNCHANGED.due(World.FOUR, "shift(2, 0, 2, 3, 0)", y -> y.shift(2, 0, 2, 3, 0), 0);
        UNCHANGED.due(World.FOUR, "shift(2, 6, 2, 6, 0)", y -> y.shift(2, 6, 2, 6, 0), 0);
        UNCHANGED.due(World.FOUR, "shift(5, 0, 5, 0, 0)", y -> y.shift(5, 0, 5, 0, 0), 0);
        UNCHANGED.due(World.FOUR, "shift(3, 0, 3, 0, 3)", y -> y.shift(3, 0, 3, 0, 3), 3);
    }

    /** "to another one (or the same) from j on, as they all were before". */
    private static void shiftOntoItself() {
        for (int i = 0; i <= 8; i++) {
            for (int j = 0; j <= 8; j++) {
                int n = 8 - Math.max(i, j);
                SecondBest x = numbered(8, 0);
                CHECK.due("shift(0, " + i + ", 0, " + j + ", " + n + ")", x.shift(0, i, 0, j, n), n);
                for (int e = 0; e < 8; e++) {
                    CHECK.due("element " + e, x.element(0, e), e >= j && e < j + n ? i + e - j + 1 : e + 1);
                }
            }
        }
        SecondBest whole = numbered(60, 60);
        CHECK.due("all sixty to another", whole.shift(0, 0, 1, 0, 60), 60);
        CHECK.due("the last", whole.element(1, 59), 60);
        CHECK.due("59 onto itself", whole.shift(0, 0, 0, 1, 59), 59);
        CHECK.due("the first stays", whole.element(0, 0), 1);
        CHECK.due("the last", whole.element(0, 59), 59);
    }

    /** taken: "KIND k (0 .. 7)". */
    private static void takenForKinds0To7() {
        for (int k : new int[] {-1, 8, MIN, MAX}) {
            UNCHANGED.due(World.values(), "taken(0, " + k + ")", y -> y.taken(0, k), -1);
            UNCHANGED.due(World.FOUR, "taken(1, " + k + ")", y -> y.taken(1, k), -1);
            UNCHANGED.due(World.FOUR, "taken(2, " + k + ")", y -> y.taken(2, k), -1);
        }
        SecondBest x = new SecondBest();
        for (int kind = 0; kind < 8; kind++) {
            x.body(kind);
            x.keep(5, kind);
            CHECK.due("taken for its own kind", x.taken(5, kind), kind);
            CHECK.due("taken for a MATCH", x.taken(5, 0), kind);
        }
    }

    /** taken: "-11". */
    private static void takenFromNothing() {
        for (int k = 0; k < 8; k++) {
            int kind = k;
            UNCHANGED.due(World.FOUR, "taken(0, " + k + ")", y -> y.taken(0, kind), -11);
        }
        UNCHANGED.due(World.FOUR, "taken(6, 8)", y -> y.taken(6, 8), -1);
    }

    /** taken: "-12": a ROW, or of a KIND that is not that one or under it. */
    private static void takenOfAnotherKind() {
        for (int s = 2; s < 6; s++) {
            for (int k = 0; k < 8; k += 7) {
                int shelf = s;
                int kind = k;
                UNCHANGED.due(World.FOUR, "taken(" + s + ", " + k + ") of a row", y -> y.taken(shelf, kind), -12);
            }
        }
        // FINAL (4) is under CUP (1), and that under MATCH (0); FALSE (7) is under FINAL.
        int[] want = {4, 4, -12, -12, 4, -12, -12, -12};
        for (int k = 0; k < 8; k++) {
            int kind = k;
            UNCHANGED.due(World.FOUR, "taken(1, " + k + ") of a FINAL", y -> y.taken(1, kind), want[k]);
        }
        SecondBest x = new SecondBest();
        x.body(0);
        x.keep(0, 0);
        CHECK.due("a MATCH for a MATCH", x.taken(0, 0), 0);
        for (int k = 1; k < 8; k++) {
            CHECK.due("a MATCH for a kind under it", x.taken(0, k), -12);
        }
    }

    private static SecondBest rowed(int players, int length, int... bytes) {
        SecondBest x = Made.with(players);
        x.row(5, 0, length);
        for (int i = 0; i < bytes.length; i++) {
            x.put(5, i, bytes[i]);
        }
        return x;
    }

    private static SecondBest rowOfWins(int length) {
        SecondBest x = rowed(2, length);
        for (int i = 1; i < length; i += 2) {
            x.put(5, i, 1);
        }
        return x;
    }

    /** "n (1 .. 12) of them". */
    private static void matchesAre1To12() {
        for (int n = 1; n <= 12; n++) {
            SecondBest x = rowOfWins(60);
            CHECK.due("matches(5, 0, " + n + ")", x.matches(5, 0, n), n);
            CHECK.due("how many there are", x.count(1), n);
        }
        for (int n : new int[] {0, -1, 13, MIN, MAX}) {
            for (int s = 0; s < 6; s++) {
                int shelf = s;
                UNCHANGED.due(World.FOUR, "matches(" + s + ", 0, " + n + ")", y -> y.matches(shelf, 0, n), -1);
            }
            UNCHANGED.due(World.values(), "matches(0, 0, " + n + ")", y -> y.matches(0, 0, n), -1);
        }
    }

    /** matches: "BAD": no such SHELF. */
    private static void matchesFromNoShelf() {
        for (int shelf : NO_SHELVES) {
            UNCHANGED.due(World.values(), "matches(" + shelf + ", 0, 1)", y -> y.matches(shelf, 0, 1), -1);
        }
        CHECK.due("the last shelf", rowOfWins(2).matches(5, 0, 1), 1);
        SecondBest x = Made.with(2);
        x.row(0, 0, 2);
        x.put(0, 0, 1);
        CHECK.due("the first shelf", x.matches(0, 0, 1), 1);
    }

    /** "-12 (no ROW of bytes ..)"; BAD is named first. */
    private static void matchesFromNoRowOfBytes() {
        UNCHANGED.due(World.FOUR, "matches(1, 0, 1) of a match", y -> y.matches(1, 0, 1), -12);
        UNCHANGED.due(World.FOUR, "matches(3, 0, 1) of longs", y -> y.matches(3, 0, 1), -12);
        UNCHANGED.due(World.FOUR, "matches(4, 0, 1) of booleans", y -> y.matches(4, 0, 1), -12);
        UNCHANGED.due(World.FOUR, "matches(5, 0, 12) of no ints", y -> y.matches(5, 0, 12), -12);
        UNCHANGED.due(World.STORED, "matches(1, 0, 1) of shorts", y -> y.matches(1, 0, 1), -12);
        UNCHANGED.due(World.FOUR, "matches(3, -1, 1) of longs", y -> y.matches(3, -1, 1), -12);
        UNCHANGED.due(World.FOUR, "matches(3, 99, 1) of longs", y -> y.matches(3, 99, 1), -12);
        UNCHANGED.due(World.FOUR, "matches(1, 0, 13) of a match", y -> y.matches(1, 0, 13), -1);
        UNCHANGED.due(World.FOUR, "matches(3, 0, 0) of longs", y -> y.matches(3, 0, 0), -1);
    }

    /** "a SHELF that holds nothing is missing"; "it ends where the row is missing". */
    private static void matchesFromAMissingRow() {
        for (int i : new int[] {0, 1, -1, 60, MIN, MAX}) {
            UNCHANGED.due(World.FOUR, "matches(0, " + i + ", 1)", y -> y.matches(0, i, 1), 0);
            UNCHANGED.due(World.FOUR, "matches(0, " + i + ", 12)", y -> y.matches(0, i, 12), 0);
        }
        SecondBest x = rowOfWins(2);
        CHECK.due("there", x.matches(5, 0, 1), 1);
        x.keep(5, -1);
        CHECK.due("missing", x.matches(5, 0, 1), 0);
        CHECK.due("one came", x.count(1), 1);
    }

    /** "it ends where the row .. ends (within a two, too) ..: those ahead came." */
    private static void matchesUntilTheRowEnds() {
        for (int length = 0; length <= 25; length++) {
            SecondBest x = rowOfWins(length);
            int want = Math.min(12, length / 2);
            CHECK.due("matches(5, 0, 12) of " + length, x.matches(5, 0, 12), want);
            CHECK.due("those ahead came", x.count(1), want);
        }
        SecondBest x = rowOfWins(60);
        CHECK.due("from the last two on", x.matches(5, 58, 5), 1);
        CHECK.due("from the last one on", x.matches(5, 59, 5), 0);
        CHECK.due("from behind the last", x.matches(5, 60, 5), 0);
        CHECK.due("from the last three on, the other way", x.matches(5, 57, 5), 1);
        CHECK.due("1 beat 0", x.of(1, 10), 1);
    }

    /** "from place i on": also where it is not in the row, and where it passes the end of int. */
    private static void matchesFromAPlace() {
        SecondBest x = rowOfWins(60);
        for (int i : new int[] {-1, -2, -60, 60, 61, MIN, MIN + 1, MAX, MAX - 1, MAX - 22}) {
            CHECK.due("matches(5, " + i + ", 12)", x.matches(5, i, 12), 0);
            CHECK.due("none came", x.count(1), 0);
        }
        // Full shelves beside it have players just ahead of its first place and behind its last.
        SecondBest beside = Made.with(2);
        for (int shelf = 0; shelf < 6; shelf++) {
            beside.row(shelf, 0, 60);
            beside.put(shelf, 0, shelf == 3 ? 0 : 1);
            beside.put(shelf, 59, shelf == 3 ? 0 : 1);
        }
        CHECK.due("matches(3, -1, 1)", beside.matches(3, -1, 1), 0);
        CHECK.due("matches(3, 59, 1)", beside.matches(3, 59, 1), 0);
        CHECK.due("none came", beside.count(1), 0);
        UNCHANGED.due(World.FOUR, "matches(2, -1, 12)", y -> y.matches(2, -1, 12), 0);
        UNCHANGED.due(World.FOUR, "matches(2, 5, 12)", y -> y.matches(2, 5, 12), 0);
        UNCHANGED.due(World.FOUR, "matches(2, 6, 12)", y -> y.matches(2, 6, 12), 0);
        UNCHANGED.due(World.FOUR, "matches(2, MAX, 12)", y -> y.matches(2, MAX, 12), 0);
        UNCHANGED.due(World.FOUR, "matches(2, MIN, 12)", y -> y.matches(2, MIN, 12), 0);
    }

    /** "one is not so": no such PLAYER, or one and the same. */
    private static void matchesUntilOneIsNotSo() {
        int[][] odd = {{0, 0}, {2, 2}, {0, 3}, {3, 0}, {0, -1}, {-1, 0}, {0, 127}, {-128, 1}, {0, 10}, {0, 12}, {1, -8}, {2, -10},
            {10, 1}, {-1, 12}};
        for (int[] o : odd) {
            SecondBest x = rowed(3, 6, 0, 1, o[0], o[1], 1, 2);
            CHECK.due("0, 1, " + o[0] + ", " + o[1] + ", 1, 2", x.matches(5, 0, 3), 1);
            CHECK.due("the one ahead came", x.count(1), 1);
            SecondBest first = rowed(3, 4, o[0], o[1], 1, 2);
            CHECK.due(o[0] + ", " + o[1] + ", 1, 2", first.matches(5, 0, 2), 0);
            CHECK.due("none came", first.count(1), 0);
        }
        SecondBest last = rowed(8, 4, 7, 6, 6, 7);
        CHECK.due("the last two of eight", last.matches(5, 0, 2), 2);
        CHECK.due("seven: 7 is nobody", rowed(7, 4, 6, 5, 5, 7).matches(5, 0, 2), 1);
        CHECK.due("nobody at all", rowed(0, 4, 0, 1, 1, 0).matches(5, 0, 2), 0);
        UNCHANGED.due(World.FULL, "matches(0, 1, 1)", y -> y.matches(0, 1, 1), 0);
    }

    /** "or MATCHES are FULL: those ahead came." */
    private static void matchesUntilFull() {
        for (int there = 0; there <= 12; there++) {
            SecondBest x = rowOfWins(60);
            for (int m = 0; m < there; m++) {
                x.match(10);
            }
            CHECK.due("twelve more than " + there, x.matches(5, 0, 12), 12 - there);
            CHECK.due("twelve", x.count(1), 12);
            CHECK.due("one more", x.matches(5, 0, 1), 0);
            CHECK.due("FULL", x.match(1), -3);
        }
        UNCHANGED.due(World.FULL, "matches(0, 0, 1)", y -> y.matches(0, 0, 1), 0);
        UNCHANGED.due(World.FULL, "matches(0, 0, 12)", y -> y.matches(0, 0, 12), 0);
    }
}
