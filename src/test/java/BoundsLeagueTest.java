/** The ends that promises 26, 27 and their terms name: table, days. */
public final class BoundsLeagueTest {
    private static final Check CHECK = new Check();
    private static final Unchanged UNCHANGED = new Unchanged(CHECK);
    private static final int MIN = Integer.MIN_VALUE, MAX = Integer.MAX_VALUE;

    public static void main(String[] args) {
        placesThatThereAre();
        whatIs0To2();
        thoseMatchesByPlace0();
        noPlayers();
        badAheadOfState();
        pointsThenLostThenNumber();
        lostByWhoStandsHigher();
        tablesAre1To4();
        matchIsMinus1OrThere();
        dayOfOneThatDoesNotCount();
        badAheadOfNot();
        noDays();
        nobodyTwiceOnOne();
        twelveDays();
        tablesFill();
        earlierThanAnEarlierOne();
        CHECK.end();
    }

    /** "who is at a PLACE (what 0), points there (1)": PLACES that there are. */
    private static void placesThatThereAre() {
        for (int n = 1; n <= 8; n++) {
            SecondBest x = Made.with(n);
            for (int place = 0; place < n; place++) {
                CHECK.due("table(" + place + ", 0) of " + n, x.table(place, 0), place);
                CHECK.due("table(" + place + ", 1) of " + n, x.table(place, 1), 0);
            }
            CHECK.due("table(" + n + ", 0) of " + n, x.table(n, 0), -1);
            CHECK.due("table(" + n + ", 1) of " + n, x.table(n, 1), -1);
        }
        for (int place : new int[] {-1, 8, MIN, MAX}) {
            UNCHANGED.due(World.values(), "table(" + place + ", 0)", y -> y.table(place, 0), -1);
            UNCHANGED.due(World.values(), "table(" + place + ", 1)", y -> y.table(place, 1), -1);
        }
    }

    /** table: what 0, 1, 2. */
    private static void whatIs0To2() {
        SecondBest x = Made.with(2, 10, 1, 10);
        CHECK.due("who", x.table(0, 0), 1);
        CHECK.due("points", x.table(0, 1), 2);
        CHECK.due("those matches", x.table(0, 2), 1);
        for (int what : new int[] {-1, 3, MIN, MAX}) {
            UNCHANGED.due(World.values(), "table(0, " + what + ")", y -> y.table(0, what), -1);
        }
    }

    /** "those MATCHES (what 2, place 0)". */
    private static void thoseMatchesByPlace0() {
        for (int place : new int[] {-1, 1, 2, 7, 8, MIN, MAX}) {
            UNCHANGED.due(World.values(), "table(" + place + ", 2)", y -> y.table(place, 2), -1);
        }
        UNCHANGED.due(World.FULL, "table(0, 2)", y -> y.table(0, 2), 1);
    }

    /** "STATE: no PLAYERS." */
    private static void noPlayers() {
        UNCHANGED.due(World.EMPTY, "table(0, 2)", y -> y.table(0, 2), -5);
        CHECK.due("one player", Made.with(1).table(0, 2), 0);
    }

    /** BAD is named first, then STATE: of nobody no PLACE is there. */
    private static void badAheadOfState() {
        UNCHANGED.due(World.EMPTY, "table(0, 0)", y -> y.table(0, 0), -1);
        UNCHANGED.due(World.EMPTY, "table(0, 1)", y -> y.table(0, 1), -1);
        UNCHANGED.due(World.EMPTY, "table(1, 2)", y -> y.table(1, 2), -1);
        UNCHANGED.due(World.EMPTY, "table(0, 3)", y -> y.table(0, 3), -1);
    }

    private static void stands(String what, SecondBest x, int... who) {
        for (int place = 0; place < who.length; place++) {
            CHECK.due(what + ": who is at " + place, x.table(place, 0), who[place]);
        }
    }

    /** "PLAYERS by points, then by fewer lost ones, then by number". */
    private static void pointsThenLostThenNumber() {
        stands("a point more", Made.with(3, 20), 2, 1, 0);
        stands("one lost", Made.with(3, 20, 10), 1, 2, 0);
        stands("one lost more", Made.with(3, 20, 10, 12), 1, 2, 0);
        stands("like points, one lost", Made.with(4, 13, 32, 21), 1, 2, 3, 0);
        stands("like points, fewer lost", Made.with(4, 20, 10, 31), 2, 3, 1, 0);
        stands("more points go ahead of fewer lost", Made.with(4, 1, 1, 20, 21, 23), 2, 0, 3, 1);
        SecondBest x = Made.with(3, 20, 10);
        x.mend(0, 1, 0);
        stands("2 has none that counts", x, 1, 2, 0);
        CHECK.due("its points", x.table(1, 1), 0);
        SecondBest all = Made.with(2, 10, 10, 10, 10, 10, 10, 10, 10, 10, 10, 10, 10);
        CHECK.due("twelve points", all.table(0, 1), 12);
        CHECK.due("none", all.table(1, 1), 0);
    }

    /** "how many MATCHES (that COUNT) were lost by who stands higher in it." */
    private static void lostByWhoStandsHigher() {
        CHECK.due("none", Made.with(2).table(0, 2), 0);
        CHECK.due("one, won by who is higher", Made.with(2, 10).table(0, 2), 0);
        CHECK.due("like many: 0 is higher", Made.with(2, 10, 1).table(0, 2), 1);
        CHECK.due("six of twelve", Made.with(2, 10, 10, 10, 10, 10, 10, 1, 1, 1, 1, 1, 1).table(0, 2), 6);
        CHECK.due("five of twelve", Made.with(2, 10, 10, 10, 10, 10, 1, 1, 1, 1, 1, 1, 1).table(0, 2), 5);
        SecondBest x = Made.with(2, 10, 1);
        x.mend(0, 1, 0);
        CHECK.due("it does not count", x.table(0, 2), 0);
    }

    /** "t (1 .. 4) on a DAY". */
    private static void tablesAre1To4() {
        int[] days = {0, 4, 2, 2, 1};
        for (int t = 1; t <= 4; t++) {
            CHECK.due("days(" + t + ", -1)", Made.with(8, 1, 23, 45, 67).days(t, -1), days[t]);
        }
        for (int t : new int[] {0, -1, 5, MIN, MAX}) {
            UNCHANGED.due(World.values(), "days(" + t + ", -1)", y -> y.days(t, -1), -1);
            UNCHANGED.due(World.values(), "days(" + t + ", 0)", y -> y.days(t, 0), -1);
        }
    }

    /** "how many (match -1), the DAY of a MATCH .. BAD." */
    private static void matchIsMinus1OrThere() {
        for (int n = 0; n <= 12; n++) {
            SecondBest x = Made.with(2);
            for (int m = 0; m < n; m++) {
                x.match(1);
            }
            CHECK.due("days of " + n, x.days(1, -1), n);
            CHECK.due("one behind the last of " + n, x.days(1, n), -1);
            for (int m = 0; m < n; m++) {
                CHECK.due("the day of " + m + " of " + n, x.days(1, m), m);
            }
        }
        for (int m : new int[] {-2, 12, MIN, MAX}) {
            UNCHANGED.due(World.values(), "days(1, " + m + ")", y -> y.days(1, m), -1);
        }
    }

    /** "(NOT: it does not COUNT)". */
    private static void dayOfOneThatDoesNotCount() {
        UNCHANGED.due(World.FOUR, "days(1, 3)", y -> y.days(1, 3), -2);
        UNCHANGED.due(World.FOUR, "days(4, 3)", y -> y.days(4, 3), -2);
        SecondBest x = Made.with(2, 1, 10);
        x.mend(0, 1, 0);
        CHECK.due("it does not count", x.days(1, 0), -2);
        CHECK.due("the other one's day", x.days(1, 1), 0);
        CHECK.due("one day", x.days(1, -1), 1);
        x.undo();
        CHECK.due("it counts again", x.days(1, 0), 0);
        CHECK.due("the other one's day", x.days(1, 1), 1);
    }

    /** BAD is named first, then NOT. */
    private static void badAheadOfNot() {
        UNCHANGED.due(World.FOUR, "days(0, 3)", y -> y.days(0, 3), -1);
        UNCHANGED.due(World.FOUR, "days(5, 3)", y -> y.days(5, 3), -1);
    }

    /** No MATCHES, or none that COUNTS: no DAYS. */
    private static void noDays() {
        for (int t = 1; t <= 4; t++) {
            int tables = t;
            UNCHANGED.due(World.EMPTY, "days(" + t + ", -1)", y -> y.days(tables, -1), 0);
            SecondBest x = Made.with(2, 1);
            x.mend(0, 1, 0);
            CHECK.due("none counts", x.days(t, -1), 0);
        }
    }

    /** "nobody twice on one". */
    private static void nobodyTwiceOnOne() {
        SecondBest wins = Made.with(5, 1, 2, 3, 4);
        SecondBest loses = Made.with(5, 10, 20, 30, 40);
        SecondBest both = Made.with(5, 1, 20, 3, 40);
        for (int m = 0; m < 4; m++) {
            CHECK.due("who wins twice", wins.days(4, m), m);
            CHECK.due("who loses twice", loses.days(4, m), m);
            CHECK.due("who wins and loses", both.days(4, m), m);
        }
    }

    /** As many DAYS as there can be. */
    private static void twelveDays() {
        SecondBest x = Made.with(2, 1, 10, 1, 10, 1, 10, 1, 10, 1, 10, 1, 10);
        for (int t = 1; t <= 4; t++) {
            CHECK.due("twelve days by " + t, x.days(t, -1), 12);
            CHECK.due("the last day by " + t, x.days(t, 11), 11);
        }
        SecondBest all = Made.with(8, 1, 23, 45, 67, 2, 13, 46, 57, 3, 12, 47, 56);
        CHECK.due("twelve by one", all.days(1, -1), 12);
        CHECK.due("twelve by four", all.days(4, -1), 3);
        CHECK.due("the last by four", all.days(4, 11), 2);
        CHECK.due("twelve by three", all.days(3, -1), 4);
    }

    /** "t (1 .. 4) on a DAY": the one that fills it, and the one after that. */
    private static void tablesFill() {
        int[][] day = {{0, 1, 2, 3}, {0, 0, 1, 1}, {0, 0, 0, 1}, {0, 0, 0, 0}};
        SecondBest x = Made.with(8, 1, 23, 45, 67);
        for (int t = 1; t <= 4; t++) {
            for (int m = 0; m < 4; m++) {
                CHECK.due("day of " + m + " by " + t, x.days(t, m), day[t - 1][m]);
            }
        }
    }

    /** "as early as can be"; "it may be earlier than that of an earlier one". */
    private static void earlierThanAnEarlierOne() {
        SecondBest x = Made.with(4, 1, 2, 23);
        CHECK.due("by one", x.days(1, 2), 2);
        CHECK.due("0 is busy", x.days(2, 1), 1);
        CHECK.due("earlier", x.days(2, 2), 0);
        CHECK.due("two days", x.days(2, -1), 2);
    }
}
