import java.util.function.ToLongFunction;

/** The ends that promise 39 names, those of an object's life, and that calls which only tell leave all as it was. */
public final class BoundsCountTest {
    private static final Check CHECK = new Check();
    private static final Unchanged UNCHANGED = new Unchanged(CHECK);
    private static final int MIN = Integer.MIN_VALUE, MAX = Integer.MAX_VALUE;

    public static void main(String[] args) {
        whatIs0To6();
        emptyAndFull();
        undoneOnesAreNotCounted();
        callsThatTell();
        objectsApart();
        fiveHundredAndTwelveCalls();
        CHECK.end();
    }

    /** count: "0 PLAYERS" to "6 bodies that ran in the latest act(). BAD." */
    private static void whatIs0To6() {
        for (int what : new int[] {-1, 7, 8, MIN, MAX}) {
            UNCHANGED.due(World.values(), "count(" + what + ")", y -> y.count(what), -1);
        }
        SecondBest x = World.FOUR.make();
        int[] want = {4, 4, 4, 2, 2, 8, 14};
        for (int what = 0; what < 7; what++) {
            CHECK.due("count(" + what + ")", x.count(what), want[what]);
        }
    }

    /** How many there are where nothing is, and where nothing more can be. */
    private static void emptyAndFull() {
        int[] full = {8, 12, 8, 0, 37, 0, 0};
        int[] stored = {2, 1, 0, 120, 0, 50, 2};
        for (int w = 0; w < 7; w++) {
            int what = w;
            UNCHANGED.due(World.EMPTY, "count(" + w + ")", y -> y.count(what), 0);
            UNCHANGED.due(World.FULL, "count(" + w + ")", y -> y.count(what), full[w]);
            UNCHANGED.due(World.STORED, "count(" + w + ")", y -> y.count(what), stored[w]);
        }
    }

    /** "4 changes that may be UNDONE". */
    private static void undoneOnesAreNotCounted() {
        SecondBest x = World.FULL.make();
        for (int n = 38; n <= 40; n++) {
            x.redo();
            CHECK.due("done again", x.count(4), n);
        }
        CHECK.due("no more", x.redo(), -5);
        CHECK.due("forty", x.count(4), 40);
        for (int n = 39; n >= 0; n--) {
            x.undo();
            CHECK.due("undone", x.count(4), n);
        }
    }

    /** A call that tells, told by what it answers on an object of its own. */
    private static void tells(World world, String call, ToLongFunction<SecondBest> told) {
        UNCHANGED.due(world, call, told, told.applyAsLong(world.make()));
    }

    /** No call that only tells changes what later calls answer. */
    private static void callsThatTell() {
        for (World world : World.values()) {
            tells(world, "of(0, 0)", y -> y.of(0, 0));
            tells(world, "of(0, 12)", y -> y.of(0, 12));
            tells(world, "orders(-1)", y -> y.orders(-1));
            tells(world, "orders(0)", y -> y.orders(0));
            tells(world, "sure(1)", y -> y.sure(1));
            tells(world, "places(0)", y -> y.places(0));
            tells(world, "clash()", SecondBest::clash);
            tells(world, "wrong()", SecondBest::wrong);
            tells(world, "longest(1)", y -> y.longest(1));
            tells(world, "longest(10)", y -> y.longest(10));
            for (int qk : new int[] {0, 10, 20, 30, 40, 51, 60}) {
                tells(world, "ask(" + qk + ", 1)", y -> y.ask(qk, 1));
                tells(world, "proof(" + qk + ")", y -> y.proof(qk));
                tells(world, "worst(" + qk + ")", y -> y.worst(qk));
                tells(world, "mean(" + qk + ", 0)", y -> y.mean(qk, 0));
                tells(world, "next(" + qk + ", 1)", y -> y.next(qk, 1));
            }
            tells(world, "chance(10, 2)", y -> y.chance(10, 2));
            tells(world, "likely(0, 0, 0)", y -> y.likely(0, 0, 0));
            tells(world, "friend(1)", y -> y.friend(1));
            tells(world, "lots(3, 50, 0)", y -> y.lots(3, 50, 0));
            tells(world, "champion(1)", y -> y.champion(1));
            tells(world, "table(0, 0)", y -> y.table(0, 0));
            tells(world, "table(0, 2)", y -> y.table(0, 2));
            tells(world, "days(2, -1)", y -> y.days(2, -1));
            tells(world, "days(2, 0)", y -> y.days(2, 0));
            tells(world, "trace(0)", y -> y.trace(0));
            tells(world, "element(2, 0)", y -> y.element(2, 0));
            tells(world, "taken(1, 0)", y -> y.taken(1, 0));
        }
    }

    /** "All memory is the class's own": what one object does is none of another one's. */
    private static void objectsApart() {
        for (Look look : Look.values()) {
            SecondBest four = World.FOUR.make();
            SecondBest full = World.FULL.make();
            SecondBest stored = World.STORED.make();
            for (Look other : Look.values()) {
                other.at(World.TORN.make());
            }
            CHECK.that("four beside others: " + look, look.at(four).equals(look.at(World.FOUR.make())));
            CHECK.that("full beside others: " + look, look.at(full).equals(look.at(World.FULL.make())));
            CHECK.that("stored beside others: " + look, look.at(stored).equals(look.at(World.STORED.make())));
        }
    }

    /** "An object is used for at most 512 calls after it has been made". */
    private static void fiveHundredAndTwelveCalls() {
        SecondBest changed = Made.with(2, 1);
        for (int n = 4; n <= 511; n++) {
            CHECK.due("call " + n, changed.mend(0, 0, n % 2 == 0 ? 7 : 8), n == 4 ? 0 : n % 2 == 0 ? 8 : 7);
        }
        CHECK.due("call 512", changed.count(4), 40);
        SecondBest full = Made.with(8, 1, 12, 23, 34, 45, 56, 67, 2, 13, 24, 35, 46);
        for (int n = 21; n <= 511; n++) {
            CHECK.due("call " + n, full.match(1), -3);
        }
        CHECK.due("call 512", full.orders(7), 7);
        SecondBest taped = new SecondBest();
        for (int text = 0; text < 4; text++) {
            for (int n = 1; n <= 120; n++) {
                CHECK.due("byte " + n + " of text " + text, taped.feed('('), n);
            }
            CHECK.due("six are open at most", taped.law(), -106);
        }
        for (int n = 485; n <= 511; n++) {
            CHECK.due("call " + n, taped.law(), -100);
        }
        CHECK.due("call 512", taped.feed(0), 1);
        SecondBest acted = new SecondBest();
        acted.body(7);
        for (int n = 2; n <= 511; n++) {
            CHECK.due("call " + n, acted.act(0, 3, 1), (1 + 3) * 2 + 2 - 5 - (1 - 5) - 1);
        }
        CHECK.due("call 512", acted.trace(13), 1);
        SecondBest rowed = new SecondBest();
        for (int n = 1; n <= 511; n++) {
            CHECK.due("call " + n, rowed.row(n % 6, n % 5, 60), 1);
        }
        CHECK.due("call 512", rowed.put(511 % 6, 59, 1), 1);
    }
}
