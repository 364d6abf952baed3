/** The ends that promises 28, 29 and the terms of CHANGES name: undo, redo. */
public final class BoundsChangesTest {
    private static final Check CHECK = new Check();
    private static final Unchanged UNCHANGED = new Unchanged(CHECK);

    public static void main(String[] args) {
        nothingToUndo();
        nothingToDoAgain();
        theSameNumberIsNone();
        theSameNumberLeavesWhatWasUndone();
        refusedIsNone();
        otherCallsAreNone();
        anotherCameBehind();
        fortyAreKept();
        fortyAmongThoseUndone();
        undoneToTheFirst();
        CHECK.end();
    }

    private static SecondBest changed(int times) {
        SecondBest x = Made.ofWorths(0, 50);
        x.match(1);
        for (int n = 1; n <= times; n++) {
            x.mend(0, 0, n);
        }
        return x;
    }

    /** undo: "STATE: none." */
    private static void nothingToUndo() {
        World[] unmended = {World.EMPTY, World.ONE, World.TORN, World.FIVE, World.SIX, World.STORED};
        UNCHANGED.due(unmended, "undo()", SecondBest::undo, -5);
        SecondBest x = changed(1);
        CHECK.due("one", x.undo(), 0);
        CHECK.due("none", x.undo(), -5);
        CHECK.due("none", x.undo(), -5);
        CHECK.due("it was undone once", x.of(0, 0), 0);
        CHECK.due("one to do again", x.redo(), 0);
        CHECK.due("as it was", x.of(0, 0), 1);
    }

    /** redo: "STATE: none." */
    private static void nothingToDoAgain() {
        World[] unmended = {World.EMPTY, World.ONE, World.TORN, World.FIVE, World.SIX, World.STORED};
        UNCHANGED.due(unmended, "redo()", SecondBest::redo, -5);
        SecondBest x = changed(1);
        CHECK.due("nothing undone yet", x.redo(), -5);
        CHECK.due("as it was", x.of(0, 0), 1);
        x.undo();
        CHECK.due("one", x.redo(), 0);
        CHECK.due("none", x.redo(), -5);
        CHECK.due("none", x.redo(), -5);
        CHECK.due("as it was", x.of(0, 0), 1);
        CHECK.due("one to undo", x.count(4), 1);
    }

    /** "telling the same number is none". */
    private static void theSameNumberIsNone() {
        UNCHANGED.due(World.FOUR, "mend(0, 0, 55)", y -> y.mend(0, 0, 55), 55);
        UNCHANGED.due(World.FOUR, "mend(3, 1, 0)", y -> y.mend(3, 1, 0), 0);
        UNCHANGED.due(World.FOUR, "mend(0, 1, 1)", y -> y.mend(0, 1, 1), 1);
        UNCHANGED.due(World.ONE, "mend(0, 0, 0)", y -> y.mend(0, 0, 0), 0);
        UNCHANGED.due(World.TORN, "mend(2, 0, 2)", y -> y.mend(2, 0, 2), 2);
        UNCHANGED.due(World.TORN, "mend(2, 1, 1)", y -> y.mend(2, 1, 1), 1);
        SecondBest x = changed(0);
        CHECK.due("the same", x.mend(0, 0, 0), 0);
        CHECK.due("no change", x.count(4), 0);
        CHECK.due("nothing to undo", x.undo(), -5);
        CHECK.due("another", x.mend(0, 0, 1), 0);
        CHECK.due("one change", x.count(4), 1);
    }

    /** "DONE AGAIN (as long as no other came behind)": the same number is none, though some are undone. */
    private static void theSameNumberLeavesWhatWasUndone() {
        SecondBest x = changed(3);
        x.undo();
        x.undo();
        CHECK.due("the same", x.mend(0, 0, 1), 1);
        CHECK.due("the same of the other", x.mend(1, 0, 50), 50);
        CHECK.due("the same of the match", x.mend(0, 1, 1), 1);
        CHECK.due("done again", x.redo(), 1);
        CHECK.due("its worth", x.of(0, 0), 2);
        CHECK.due("done again", x.redo(), 0);
        CHECK.due("its worth", x.of(0, 0), 3);
    }

    /** "What is answered so changes nothing." */
    private static void refusedIsNone() {
        SecondBest x = changed(2);
        x.undo();
        int[][] bad = {{0, 0, 100}, {0, 0, -1}, {2, 0, 5}, {-1, 0, 5}, {0, 1, 2}, {1, 1, 0}, {0, 2, 1}};
        for (int[] b : bad) {
            CHECK.due("BAD", x.mend(b[0], b[1], b[2]), -1);
            CHECK.due("may be undone", x.count(4), 1);
        }
        CHECK.due("done again", x.redo(), 0);
        CHECK.due("its worth", x.of(0, 0), 2);
    }

    /** "CHANGES (WORTH of PLAYERS; whether a MATCH COUNTS ..)" and no others. */
    private static void otherCallsAreNone() {
        SecondBest x = changed(2);
        x.undo();
        x.player(7);
        x.match(20);
        x.cup(0);
        x.cup(-1);
        x.body(3);
        x.keep(0, 0);
        x.row(1, 0, 2);
        x.put(1, 1, 1);
        x.matches(1, 0, 1);
        x.feed('5');
        x.law();
        x.act(0, 0, 1);
        CHECK.due("one may be undone", x.count(4), 1);
        CHECK.due("one may be done again", x.redo(), 0);
        CHECK.due("its worth", x.of(0, 0), 2);
        CHECK.due("undone", x.undo(), 1);
        CHECK.due("undone", x.undo(), 0);
        CHECK.due("none", x.undo(), -5);
        CHECK.due("the player stays", x.count(0), 3);
        CHECK.due("the matches stay", x.count(1), 3);
    }

    /** "(as long as no other came behind)". */
    private static void anotherCameBehind() {
        SecondBest x = changed(3);
        x.undo();
        x.undo();
        CHECK.due("another", x.mend(1, 0, 9), 50);
        CHECK.due("none to do again", x.redo(), -5);
        CHECK.due("two may be undone", x.count(4), 2);
        CHECK.due("the worth that was", x.of(0, 0), 1);
        CHECK.due("undone", x.undo(), 1);
        CHECK.due("the other one's worth", x.of(1, 0), 50);
        CHECK.due("only that one is done again", x.redo(), 0);
        CHECK.due("the other one's worth", x.of(1, 0), 9);
        CHECK.due("the worth that was", x.of(0, 0), 1);
        CHECK.due("none to do again", x.redo(), -5);
        SecondBest like = changed(2);
        like.undo();
        CHECK.due("the very one that was undone", like.mend(0, 0, 2), 1);
        CHECK.due("is another all the same", like.redo(), -5);
        SecondBest all = changed(2);
        all.undo();
        all.undo();
        all.mend(0, 1, 0);
        CHECK.due("behind none", all.redo(), -5);
        CHECK.due("one", all.undo(), 0);
        CHECK.due("it counts", all.of(0, 12), 1);
    }

    /** "40 at most are kept." */
    private static void fortyAreKept() {
        for (int times = 38; times <= 43; times++) {
            int kept = Math.min(40, times);
            SecondBest x = changed(times);
            CHECK.due("kept of " + times, x.count(4), kept);
            for (int left = kept - 1; left >= 0; left--) {
                CHECK.due("undo() of " + times, x.undo(), left);
                CHECK.due("its worth", x.of(0, 0), times - kept + left);
            }
            CHECK.due("no more of " + times, x.undo(), -5);
            CHECK.due("its worth", x.of(0, 0), times - kept);
            for (int left = kept - 1; left >= 0; left--) {
                CHECK.due("redo() of " + times, x.redo(), left);
                CHECK.due("its worth", x.of(0, 0), times - left);
            }
            CHECK.due("no more of " + times, x.redo(), -5);
            CHECK.due("its worth", x.of(0, 0), times);
        }
    }

    /** 40, of which some are undone: what comes behind takes their place. */
    private static void fortyAmongThoseUndone() {
        SecondBest x = changed(40);
        x.undo();
        CHECK.due("39", x.count(4), 39);
        x.mend(1, 0, 77);
        CHECK.due("forty", x.count(4), 40);
        CHECK.due("none was pushed out", undoneAll(x), 40);
        CHECK.due("its worth", x.of(0, 0), 0);
        SecondBest y = changed(40);
        y.undo();
        y.mend(1, 0, 77);
        y.mend(1, 0, 78);
        CHECK.due("forty", y.count(4), 40);
        CHECK.due("one was pushed out", undoneAll(y), 40);
        CHECK.due("its worth", y.of(0, 0), 1);
        CHECK.due("the other one's worth", y.of(1, 0), 50);
        SecondBest z = changed(41);
        z.mend(0, 0, 41);
        CHECK.due("the same pushes none out", undoneAll(z), 40);
        CHECK.due("its worth", z.of(0, 0), 1);
        SecondBest bad = changed(40);
        bad.mend(0, 0, 100);
        CHECK.due("BAD pushes none out", undoneAll(bad), 40);
        CHECK.due("its worth", bad.of(0, 0), 0);
    }

    private static int undoneAll(SecondBest x) {
        int times = 0;
        while (times < 50 && x.undo() >= 0) {
            times++;
        }
        return times;
    }

    /** "can be UNDONE, the latest first": WORTHS and MATCHES in turn, to the first. */
    private static void undoneToTheFirst() {
        SecondBest x = changed(0);
        x.mend(0, 0, 99);
        x.mend(0, 1, 0);
        x.mend(1, 0, 0);
        CHECK.due("undone", x.undo(), 2);
        CHECK.due("the worth alone", x.of(1, 0) * 1000 + x.of(0, 12) * 100 + x.of(0, 0), 50099);
        CHECK.due("undone", x.undo(), 1);
        CHECK.due("whether it counts", x.of(1, 0) * 1000 + x.of(0, 12) * 100 + x.of(0, 0), 50199);
        CHECK.due("undone", x.undo(), 0);
        CHECK.due("the first", x.of(1, 0) * 1000 + x.of(0, 12) * 100 + x.of(0, 0), 50100);
        CHECK.due("done again", x.redo(), 2);
        CHECK.due("done again", x.redo(), 1);
        CHECK.due("done again", x.redo(), 0);
        CHECK.due("all of them", x.of(1, 0) * 1000 + x.of(0, 12) * 100 + x.of(0, 0), 99);
    }
}
