/** Promises 28, 29 (and 5): undo, redo. */
public final class ChangesTest {
    private static final Check CHECK = new Check();

    public static void main(String[] args) {
        backAndForth();
        othersAreNoChanges();
        fortyAreKept();
        fortyOfAllSorts();
        CHECK.end();
    }

    private static SecondBest two() {
        SecondBest x = new SecondBest();
        x.player(10);
        x.player(20);
        x.match(1);
        return x;
    }

    private static void backAndForth() {
        SecondBest x = two();
        CHECK.due("nothing to undo", x.undo(), -5);
        CHECK.due("nothing to redo", x.redo(), -5);
        x.mend(0, 0, 11);
        x.mend(0, 1, 0);
        x.mend(0, 0, 12);
        CHECK.due("three may be undone", x.count(4), 3);
        CHECK.due("undo()", x.undo(), 2);
        CHECK.due("worth 11", x.of(0, 0), 11);
        CHECK.due("undo()", x.undo(), 1);
        CHECK.due("it counts", x.of(0, 12), 1);
        CHECK.due("redo()", x.redo(), 1);
        CHECK.due("it does not count", x.of(0, 12), 0);
        CHECK.due("redo()", x.redo(), 0);
        CHECK.due("worth 12", x.of(0, 0), 12);
        CHECK.due("nothing to redo", x.redo(), -5);
        CHECK.due("undo()", x.undo(), 2);
        CHECK.due("undo()", x.undo(), 1);
        CHECK.due("telling the same is no change", x.mend(0, 0, 11), 11);
        CHECK.due("and what was undone is kept", x.redo(), 1);
        CHECK.due("undo()", x.undo(), 1);
        CHECK.due("another change", x.mend(1, 0, 21), 20);
        CHECK.due("nothing to redo behind it", x.redo(), -5);
        CHECK.due("two may be undone", x.count(4), 2);
        CHECK.due("undo()", x.undo(), 1);
        CHECK.due("worth 20", x.of(1, 0), 20);
        CHECK.due("undo()", x.undo(), 0);
        CHECK.due("worth 10", x.of(0, 0), 10);
        CHECK.due("nothing to undo", x.undo(), -5);
        CHECK.due("BAD is no change", x.mend(0, 0, 100), -1);
        CHECK.due("redo()", x.redo(), 1);
        CHECK.due("redo()", x.redo(), 0);
    }

    private static void othersAreNoChanges() {
        SecondBest x = two();
        x.mend(0, 0, 11);
        x.undo();
        x.player(30);
        x.match(12);
        x.cup(0);
        x.body(0);
        CHECK.due("none may be undone", x.count(4), 0);
        CHECK.due("they don't stand behind it", x.redo(), 0);
        CHECK.due("worth 11", x.of(0, 0), 11);
        CHECK.due("the player stays", x.count(0), 3);
    }

    private static void fortyAreKept() {
        SecondBest x = two();
        for (int v = 1; v <= 45; v++) {
            x.mend(1, 0, 20 + v);
            CHECK.due("changes kept", x.count(4), Math.min(v, 40));
        }
        for (int left = 39; left >= 0; left--) {
            CHECK.due("undo()", x.undo(), left);
            CHECK.due("its worth", x.of(1, 0), 25 + left);
        }
        CHECK.due("the first five are not kept", x.undo(), -5);
        for (int left = 39; left >= 0; left--) {
            CHECK.due("redo()", x.redo(), left);
            CHECK.due("its worth", x.of(1, 0), 65 - left);
        }
        x.undo();
        CHECK.due("a change instead of the last", x.mend(1, 0, 99), 64);
        CHECK.due("forty again", x.count(4), 40);
        CHECK.due("one more", x.mend(1, 0, 98), 99);
        CHECK.due("forty still", x.count(4), 40);
        CHECK.due("undo()", x.undo(), 39);
        CHECK.due("its worth", x.of(1, 0), 99);
    }

    /** Worths of both players and the match in turn, so that each change undone must be of the right one. */
    private static void fortyOfAllSorts() {
        SecondBest x = two();
        int[][] stood = new int[60][];
        // Twenty are pushed out, no multiple of three: one that did not move would be of another sort.
        for (int n = 0; n < 60; n++) {
            stood[n] = new int[] {x.of(0, 0), x.of(1, 0), x.of(0, 12)};
            if (n % 3 == 2) {
                x.mend(0, 1, 1 - x.of(0, 12));
            } else {
                x.mend(n % 3, 0, 30 + n);
            }
        }
        for (int left = 39; left >= 0; left--) {
            CHECK.due("undo()", x.undo(), left);
            int[] want = stood[20 + left];
            CHECK.due("worth of 0, " + left + " left", x.of(0, 0), want[0]);
            CHECK.due("worth of 1, " + left + " left", x.of(1, 0), want[1]);
            CHECK.due("whether it counts, " + left + " left", x.of(0, 12), want[2]);
        }
        CHECK.due("no more", x.undo(), -5);
    }
}
