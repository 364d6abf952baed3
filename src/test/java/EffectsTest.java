import java.util.ArrayList;
import java.util.List;
import java.util.function.ToLongFunction;

/**
 * What a call that was not refused changes is what its promise says, and nothing else: all that an object tells beside
 * that is compared with an object of the same world that was not called so.
 */
public final class EffectsTest {
    private static final Check CHECK = new Check();

    private static final String[] BY_RESULTS = {"orders", "places", "table", "clash", "wrong", "sure", "longest", "days"};
    private static final String[] BY_CHANCES = {"likely", "friend", "lots", "champion"};

    public static void main(String[] args) {
        aPlayerComes();
        aMatchComes();
        matchesComeFromARow();
        aWorthBecomesAnother();
        aMatchCountsNoMore();
        aByteComes();
        theTapeBecomesTheLaw();
        aFaultyTextGoes();
        aPlayerComesToTheCup();
        theCupIsEmptied();
        aChangeIsUndone();
        aChangeIsDoneAgain();
        aBodyIsKept();
        aBodyActs();
        aShelfHoldsAMatch();
        aShelfHoldsNothing();
        aShelfHoldsARow();
        anElementIsPut();
        elementsAreShifted();
        endsOfOtherRowsStay();
        CHECK.end();
    }

    /** One call on an object of a world, with the answer that is due. */
    private static final class Call {
        private final World world;
        private final String text;
        private final ToLongFunction<SecondBest> made;
        private final long want;

        Call(World world, String text, long want, ToLongFunction<SecondBest> made) {
            this.world = world;
            this.text = text;
            this.made = made;
            this.want = want;
        }

        /** What a look tells by calls that begin so (by all, if none is named) is as it was. */
        Call leaves(Look look, String... beginnings) {
            SecondBest x = world.make();
            CHECK.due(world + ": " + text, made.applyAsLong(x), want);
            List<String> got = some(look.at(x), beginnings);
            List<String> due = some(look.at(world.make()), beginnings);
            CHECK.that(world + ": " + look + " tells something", !due.isEmpty());
            for (int i = 0; i < due.size(); i++) {
                CHECK.that(world + " behind " + text + ": " + got.get(i) + ", due is " + due.get(i),
                    got.get(i).equals(due.get(i)));
            }
            return this;
        }

        Call leavesAll(Look... looks) {
            for (Look look : looks) {
                leaves(look);
            }
            return this;
        }

        private static List<String> some(List<String> told, String[] beginnings) {
            List<String> some = new ArrayList<>();
            for (String t : told) {
                boolean is = beginnings.length == 0;
                for (String b : beginnings) {
                    is |= t.startsWith(b);
                }
                if (is) {
                    some.add(t);
                }
            }
            return some;
        }
    }

    private static String[] shelvesBut(int... but) {
        List<String> others = new ArrayList<>();
        for (int shelf = 0; shelf < 6; shelf++) {
            boolean isOther = true;
            for (int b : but) {
                isOther &= b != shelf;
            }
            for (String call : new String[] {"element(", "put(", "taken("}) {
                if (isOther) {
                    others.add(call + shelf + ",");
                }
            }
        }
        return others.toArray(new String[0]);
    }

    /** player: "A PLAYER: the number." */
    private static void aPlayerComes() {
        new Call(World.FOUR, "player(7)", 4, y -> y.player(7))
            .leavesAll(Look.SHELVES, Look.ACTS, Look.CHANGES)
            .leaves(Look.CUP, BY_CHANCES)
            .leaves(Look.FIELD, "clash", "wrong", "days", "of(0", "of(1", "of(2", "of(3");
        new Call(World.STORED, "player(7)", 2, y -> y.player(7)).leavesAll(Look.SHELVES, Look.ACTS, Look.CUP);
        new Call(World.SIX, "player(7)", 6, y -> y.player(7)).leaves(Look.CUP, BY_CHANCES);
    }

    /** match: "A MATCH .. its number." */
    private static void aMatchComes() {
        new Call(World.FOUR, "match(32)", 4, y -> y.match(32))
            .leavesAll(Look.SHELVES, Look.ACTS, Look.CHANGES, Look.CUP)
            .leaves(Look.FIELD, "of(0", "of(1", "of(2, 0", "of(2, 1", "of(3, 0", "of(3, 2", "of(3, 12");
        new Call(World.STORED, "match(10)", 1, y -> y.match(10)).leavesAll(Look.SHELVES, Look.ACTS, Look.CUP, Look.CHANGES);
    }

    /** matches: "MATCHES FROM A ROW on a SHELF .. how many came." */
    private static void matchesComeFromARow() {
        new Call(World.FOUR, "matches(2, 0, 3)", 3, y -> y.matches(2, 0, 3))
            .leavesAll(Look.SHELVES, Look.ACTS, Look.CHANGES, Look.CUP);
    }

    /** mend: "WORTH (what 0) of a PLAYER .. becomes v". */
    private static void aWorthBecomesAnother() {
        new Call(World.FOUR, "mend(2, 0, 41)", 40, y -> y.mend(2, 0, 41))
            .leavesAll(Look.SHELVES, Look.ACTS, Look.QUESTIONS)
            .leaves(Look.FIELD, BY_RESULTS)
            .leaves(Look.FIELD, "of(0", "of(1", "of(3", "of(2, 1", "of(2, 2", "of(2, 3");
        new Call(World.STORED, "mend(0, 0, 9)", 0, y -> y.mend(0, 0, 9)).leavesAll(Look.SHELVES, Look.ACTS);
    }

    /** mend: "whether a MATCH COUNTS (1; v 0, 1) becomes v". */
    private static void aMatchCountsNoMore() {
        new Call(World.FOUR, "mend(2, 1, 0)", 1, y -> y.mend(2, 1, 0))
            .leavesAll(Look.SHELVES, Look.ACTS, Look.CUP)
            .leaves(Look.FIELD, "of(0, 0", "of(1, 0", "of(2, 10", "of(2, 11", "of(0, 1", "of(3, 1");
        new Call(World.STORED, "mend(0, 1, 0)", 1, y -> y.mend(0, 1, 0)).leavesAll(Look.SHELVES, Look.ACTS, Look.CUP);
    }

    /** feed: "A byte (0 .. 255) comes to THE TAPE". */
    private static void aByteComes() {
        new Call(World.FOUR, "feed(49)", 3, y -> y.feed('1'))
            .leavesAll(Look.FIELD, Look.QUESTIONS, Look.SHELVES, Look.ACTS, Look.CHANGES)
            .leaves(Look.CUP, BY_CHANCES);
        new Call(World.FULL, "feed(49)", 1, y -> y.feed('1')).leavesAll(Look.FIELD, Look.CHANGES).leaves(Look.CUP, BY_CHANCES);
    }

    /** law: "THE TAPE becomes THE LAW: 1". */
    private static void theTapeBecomesTheLaw() {
        new Call(World.FOUR, "law()", 1, SecondBest::law)
            .leavesAll(Look.FIELD, Look.QUESTIONS, Look.SHELVES, Look.ACTS, Look.CHANGES)
            .leaves(Look.CUP, "champion");
        new Call(World.FULL, "feed(49), law()", 1, y -> Made.adopt(y, "1")).leavesAll(Look.FIELD, Look.CHANGES)
            .leaves(Look.CUP, "champion");
    }

    /** law: "-100 less its FAULT; THE TAPE is empty then." */
    private static void aFaultyTextGoes() {
        new Call(World.FOUR, "feed(43), law()", -103, y -> Made.adopt(y, "+"))
            .leavesAll(Look.FIELD, Look.QUESTIONS, Look.SHELVES, Look.ACTS, Look.CHANGES)
            .leaves(Look.CUP, BY_CHANCES);
        // The tape of 120 bytes ends with a sign.
        new Call(World.STORED, "law()", -220, SecondBest::law)
            .leavesAll(Look.FIELD, Look.QUESTIONS, Look.SHELVES, Look.ACTS, Look.CHANGES);
    }

    /** cup: "A PLAYER comes to THE CUP's row: how many it has". */
    private static void aPlayerComesToTheCup() {
        new Call(World.SIX, "cup(0)", 6, y -> y.cup(0))
            .leavesAll(Look.FIELD, Look.QUESTIONS, Look.SHELVES, Look.ACTS, Look.CHANGES)
            .leaves(Look.CUP, "chance");
    }

    /** cup: "player -1: it is empty then, 0." */
    private static void theCupIsEmptied() {
        for (World world : new World[] {World.FOUR, World.FULL, World.STORED}) {
            new Call(world, "cup(-1)", 0, y -> y.cup(-1))
                .leavesAll(Look.FIELD, Look.QUESTIONS, Look.SHELVES, Look.ACTS, Look.CHANGES)
                .leaves(Look.CUP, "chance", "law");
        }
    }

    /** undo: "UNDONE: how many may still be." */
    private static void aChangeIsUndone() {
        new Call(World.FOUR, "undo()", 1, SecondBest::undo)
            .leavesAll(Look.SHELVES, Look.ACTS, Look.QUESTIONS)
            .leaves(Look.FIELD, BY_RESULTS)
            .leaves(Look.FIELD, "of(1", "of(2", "of(3", "of(0, 1", "of(0, 2", "of(0, 3");
        new Call(World.FOUR, "undo(), redo()", 1, y -> y.undo() + y.redo() - 1)
            .leavesAll(Look.values());
    }

    /** redo: "DONE AGAIN: how many may still be." */
    private static void aChangeIsDoneAgain() {
        new Call(World.FOUR, "redo()", 0, SecondBest::redo)
            .leavesAll(Look.SHELVES, Look.ACTS, Look.QUESTIONS)
            .leaves(Look.FIELD, BY_RESULTS)
            .leaves(Look.FIELD, "of(0", "of(2", "of(3", "of(1, 1", "of(1, 2", "of(1, 3");
        new Call(World.FOUR, "redo(), undo()", 2, y -> y.redo() + y.undo())
            .leavesAll(Look.values());
        new Call(World.FULL, "redo(), undo()", 39, y -> y.redo() + y.undo())
            .leavesAll(Look.values());
    }

    /** body: "A MATCH of a KIND (0 .. 7) is kept: its number." */
    private static void aBodyIsKept() {
        new Call(World.FOUR, "body(3)", 8, y -> y.body(3))
            .leavesAll(Look.FIELD, Look.QUESTIONS, Look.CUP, Look.SHELVES, Look.CHANGES)
            .leaves(Look.ACTS, "trace");
        new Call(World.FULL, "body(3)", 0, y -> y.body(3)).leavesAll(Look.FIELD, Look.CUP, Look.CHANGES);
    }

    /** act: "An ACT (0 .. 3) of a MATCH with x." */
    private static void aBodyActs() {
        for (int body = 0; body < 8; body++) {
            for (int act = 0; act < 4; act++) {
                int b = body;
                int a = act;
                new Call(World.FOUR, "act(" + b + ", " + a + ", 5)", World.FOUR.make().act(b, a, 5), y -> y.act(b, a, 5))
                    .leavesAll(Look.FIELD, Look.QUESTIONS, Look.CUP, Look.SHELVES, Look.CHANGES)
                    .leaves(Look.ACTS, "act");
            }
        }
    }

    /** keep: "A SHELF holds .. a MATCH: 1." */
    private static void aShelfHoldsAMatch() {
        for (int s = 0; s < 6; s++) {
            int shelf = s;
            // Shelf 1 holds body 4 already: it may stand on another shelf, too.
            new Call(World.FOUR, "keep(" + s + ", 4)", 1, y -> y.keep(shelf, 4))
                .leavesAll(Look.FIELD, Look.QUESTIONS, Look.CUP, Look.ACTS, Look.CHANGES, Look.ROOM)
                .leaves(Look.SHELVES, shelvesBut(s));
            new Call(World.STORED, "keep(" + s + ", 49)", 1, y -> y.keep(shelf, 49)).leaves(Look.SHELVES, shelvesBut(s))
                .leavesAll(Look.ACTS, Look.ROOM);
        }
    }

    /** keep: "A SHELF holds nothing (body -1) ..: 1." */
    private static void aShelfHoldsNothing() {
        for (int s = 0; s < 6; s++) {
            int shelf = s;
            new Call(World.FOUR, "keep(" + s + ", -1)", 1, y -> y.keep(shelf, -1))
                .leavesAll(Look.FIELD, Look.QUESTIONS, Look.CUP, Look.ACTS, Look.CHANGES, Look.ROOM)
                .leaves(Look.SHELVES, shelvesBut(s));
            new Call(World.STORED, "keep(" + s + ", -1)", 1, y -> y.keep(shelf, -1)).leaves(Look.SHELVES, shelvesBut(s))
                .leavesAll(Look.ACTS, Look.ROOM);
        }
    }

    /** row: "A SHELF holds a ROW: 1." */
    private static void aShelfHoldsARow() {
        for (int s = 0; s < 6; s++) {
            int shelf = s;
            for (int n : new int[] {0, 60}) {
                new Call(World.FOUR, "row(" + s + ", 3, " + n + ")", 1, y -> y.row(shelf, 3, n))
                    .leavesAll(Look.FIELD, Look.QUESTIONS, Look.CUP, Look.ACTS, Look.CHANGES, Look.ROOM)
                    .leaves(Look.SHELVES, shelvesBut(s));
                new Call(World.STORED, "row(" + s + ", 3, " + n + ")", 1, y -> y.row(shelf, 3, n))
                    .leaves(Look.SHELVES, shelvesBut(s)).leavesAll(Look.ACTS, Look.ROOM);
            }
        }
    }

    /** put: "Element i of a ROW becomes v: 1." */
    private static void anElementIsPut() {
        new Call(World.FOUR, "put(2, 3, 7)", 1, y -> y.put(2, 3, 7))
            .leavesAll(Look.FIELD, Look.QUESTIONS, Look.CUP, Look.ACTS, Look.CHANGES, Look.ROOM)
            .leaves(Look.SHELVES, shelvesBut(2))
            .leaves(Look.SHELVES, "element(2, 0", "element(2, 1", "element(2, 2", "element(2, 4", "element(2, 5");
        for (int s = 0; s < 5; s++) {
            int shelf = s;
            for (int i = 0; i < 60; i += 59) {
                int place = i;
                new Call(World.STORED, "put(" + s + ", " + i + ", 1)", 1, y -> y.put(shelf, place, 1))
                    .leaves(Look.SHELVES, shelvesBut(s))
                    .leaves(Look.SHELVES, "element(" + s + ", 1", "element(" + s + ", 58");
            }
        }
    }

    /** shift: "n elements of a ROW from i on come to another one (or the same)". */
    private static void elementsAreShifted() {
        new Call(World.FOUR, "shift(2, 0, 2, 1, 3)", 3, y -> y.shift(2, 0, 2, 1, 3))
            .leavesAll(Look.FIELD, Look.QUESTIONS, Look.CUP, Look.ACTS, Look.CHANGES, Look.ROOM)
            .leaves(Look.SHELVES, shelvesBut(2))
            .leaves(Look.SHELVES, "element(2, 4", "element(2, 5");
        new Call(World.STORED, "row(5, 3, 60), shift(3, 58, 5, 0, 2)", 3, y -> y.row(5, 3, 60) + y.shift(3, 58, 5, 0, 2))
            .leaves(Look.SHELVES, shelvesBut(5)).leavesAll(Look.ACTS, Look.ROOM);
    }

    private static final int[] ENDS = {0, 1, 58, 59};

    /** Six rows of sixty longs, with unlike numbers at both ends of each. */
    private static SecondBest sixRows() {
        SecondBest x = new SecondBest();
        for (int shelf = 0; shelf < 6; shelf++) {
            x.row(shelf, 3, 60);
            for (int i : ENDS) {
                x.put(shelf, i, 100 + 100 * shelf + i);
            }
        }
        return x;
    }

    private static void endsStay(String call, SecondBest x, int butShelf, int butPlace) {
        for (int shelf = 0; shelf < 6; shelf++) {
            for (int i : ENDS) {
                if (shelf != butShelf || butPlace >= 0 && i != butPlace) {
                    CHECK.due("element(" + shelf + ", " + i + ") behind " + call, x.element(shelf, i), 100 + 100 * shelf + i);
                }
            }
        }
    }

    /** put, shift, row, keep at the ends of a full row: no element of another one changes. */
    private static void endsOfOtherRowsStay() {
        for (int shelf = 0; shelf < 6; shelf++) {
            for (int i : ENDS) {
                SecondBest x = sixRows();
                CHECK.due("put(" + shelf + ", " + i + ", 7)", x.put(shelf, i, 7), 1);
                CHECK.due("it became 7", x.element(shelf, i), 7);
                endsStay("put(" + shelf + ", " + i + ", 7)", x, shelf, i);
            }
            SecondBest down = sixRows();
            CHECK.due("shift toward the end of " + shelf, down.shift(shelf, 0, shelf, 1, 59), 59);
            endsStay("shift toward the end of " + shelf, down, shelf, -1);
            SecondBest up = sixRows();
            CHECK.due("shift toward the first of " + shelf, up.shift(shelf, 1, shelf, 0, 59), 59);
            endsStay("shift toward the first of " + shelf, up, shelf, -1);
            SecondBest across = sixRows();
            CHECK.due("shift to " + shelf, across.shift((shelf + 1) % 6, 0, shelf, 0, 60), 60);
            endsStay("shift to " + shelf, across, shelf, -1);
            SecondBest again = sixRows();
            CHECK.due("row(" + shelf + ", 0, 60)", again.row(shelf, 0, 60), 1);
            endsStay("row(" + shelf + ", 0, 60)", again, shelf, -1);
            SecondBest gone = sixRows();
            CHECK.due("keep(" + shelf + ", -1)", gone.keep(shelf, -1), 1);
            endsStay("keep(" + shelf + ", -1)", gone, shelf, -1);
        }
    }
}
