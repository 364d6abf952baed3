/** The ends that promises 1 to 3, 5 and 6 name: a new object, player, match, mend, of. */
public final class BoundsPlayersTest {
    private static final Check CHECK = new Check();
    private static final Unchanged UNCHANGED = new Unchanged(CHECK);
    private static final int MIN = Integer.MIN_VALUE, MAX = Integer.MAX_VALUE;

    public static void main(String[] args) {
        noPlayersNoMatches();
        worthIsWithin0To99();
        eightPlayersAreFull();
        badPlayerAheadOfFull();
        matchOfOneAndTheSame();
        matchOfNobody();
        twoMayPlayAgain();
        twelveMatchesAreFull();
        badMatchAheadOfFull();
        mendsWorthWithin0To99();
        mendsWhetherItCountsBy0And1();
        mendsWhoIsThere();
        mendsWhat0And1();
        tellsOfWhoIsThere();
        tellsWhat0To3And10To12();
        wonAndLostThatCount();
        CHECK.end();
    }

    /** "No players, no matches." */
    private static void noPlayersNoMatches() {
        SecondBest x = new SecondBest();
        CHECK.due("no players", x.count(0), 0);
        CHECK.due("no matches", x.count(1), 0);
        CHECK.due("no player 0", x.of(0, 0), -1);
        CHECK.due("no match 0", x.of(0, 10), -1);
        CHECK.due("the first player", x.player(5), 0);
        CHECK.due("the second player", x.player(5), 1);
        CHECK.due("the first match", x.match(1), 0);
        SecondBest other = new SecondBest();
        CHECK.due("another object has none of them", other.count(0) + other.count(1), 0);
    }

    /** "a WORTH (0 .. 99)"; "BAD (-1): no such number". */
    private static void worthIsWithin0To99() {
        SecondBest x = new SecondBest();
        CHECK.due("player(0)", x.player(0), 0);
        CHECK.due("its worth", x.of(0, 0), 0);
        CHECK.due("player(99)", x.player(99), 1);
        CHECK.due("its worth", x.of(1, 0), 99);
        int[] beyond = {-1, 100, MIN, MAX, 256, 1 << 16};
        for (int worth : beyond) {
            UNCHANGED.due(World.values(), "player(" + worth + ")", y -> y.player(worth), -1);
        }
    }

    /** "A PLAYER: the number. BAD, FULL: 8." */
    private static void eightPlayersAreFull() {
        SecondBest x = new SecondBest();
        for (int p = 0; p < 8; p++) {
            CHECK.due("player " + p, x.player(90 + p), p);
            CHECK.due("how many", x.count(0), p + 1);
        }
        CHECK.due("the ninth", x.player(90), -3);
        CHECK.due("still eight", x.count(0), 8);
        CHECK.due("the last one's worth", x.of(7, 0), 97);
        CHECK.due("no ninth", x.of(8, 0), -1);
        UNCHANGED.due(World.FULL, "player(0)", y -> y.player(0), -3);
        UNCHANGED.due(World.FULL, "player(99)", y -> y.player(99), -3);
    }

    /** "Answers, of several the one named first": BAD, FULL. */
    private static void badPlayerAheadOfFull() {
        UNCHANGED.due(World.FULL, "player(-1) of nine", y -> y.player(-1), -1);
        UNCHANGED.due(World.FULL, "player(100) of nine", y -> y.player(100), -1);
    }

    /** "BAD (one and the same)". */
    private static void matchOfOneAndTheSame() {
        for (int p = 0; p < 8; p++) {
            int same = 11 * p;
            UNCHANGED.due(World.values(), "match(" + same + ")", y -> y.match(same), -1);
        }
    }

    /** "wl: 10 times who won, and who lost"; "BAD (-1): no such number". */
    private static void matchOfNobody() {
        int[] never = {8, 9, 18, 79, 80, 81, 87, 90, 98, 99, 100, 101, 107, 110, 170, 1000, -1, -9, -10, -12, -21, -100, MIN,
            MIN + 1, MAX, MAX - 1};
        for (int wl : never) {
            UNCHANGED.due(World.values(), "match(" + wl + ")", y -> y.match(wl), -1);
        }
        for (int n = 0; n <= 8; n++) {
            for (int wl = 0; wl < 100; wl++) {
                boolean are = wl / 10 < n && wl % 10 < n && wl / 10 != wl % 10;
                SecondBest x = Made.with(n);
                CHECK.due("match(" + wl + ") of " + n, x.match(wl), are ? 0 : -1);
                CHECK.due("how many came of " + wl + " of " + n, x.count(1), are ? 1 : 0);
            }
        }
    }

    /** "one beat another one (two may play again); each COUNTS (1, at first)". */
    private static void twoMayPlayAgain() {
        SecondBest x = Made.with(2);
        int[] again = {1, 1, 10, 10, 1};
        for (int m = 0; m < again.length; m++) {
            CHECK.due("match " + m, x.match(again[m]), m);
            CHECK.due("counts at first", x.of(m, 12), 1);
            CHECK.due("who won", x.of(m, 10), again[m] / 10);
            CHECK.due("who lost", x.of(m, 11), again[m] % 10);
        }
        CHECK.due("won by 0", x.of(0, 1), 3);
        CHECK.due("lost by 0", x.of(0, 2), 2);
    }

    /** "its number. BAD (one and the same), FULL: 12." */
    private static void twelveMatchesAreFull() {
        SecondBest x = Made.with(8);
        for (int m = 0; m < 12; m++) {
            CHECK.due("match " + m, x.match(76 - 11 * (m % 7)), m);
            CHECK.due("how many", x.count(1), m + 1);
        }
        CHECK.due("the thirteenth", x.match(1), -3);
        CHECK.due("still twelve", x.count(1), 12);
        CHECK.due("the last one's winner", x.of(11, 10), 3);
        CHECK.due("the last one's loser", x.of(11, 11), 2);
        CHECK.due("no thirteenth", x.of(12, 10), -1);
        x.mend(0, 1, 0);
        CHECK.due("one that does not count takes its place all the same", x.match(1), -3);
        UNCHANGED.due(World.FULL, "match(1)", y -> y.match(1), -3);
        UNCHANGED.due(World.FULL, "match(76)", y -> y.match(76), -3);
    }

    /** "Answers, of several the one named first": BAD, FULL. */
    private static void badMatchAheadOfFull() {
        int[] bad = {0, 77, 78, 80, -1};
        for (int wl : bad) {
            UNCHANGED.due(World.FULL, "match(" + wl + ") of thirteen", y -> y.match(wl), -1);
        }
    }

    /** "WORTH (what 0) of a PLAYER .. becomes v: what it was." */
    private static void mendsWorthWithin0To99() {
        SecondBest x = Made.ofWorths(50, 0, 99);
        CHECK.due("mend(0, 0, 0)", x.mend(0, 0, 0), 50);
        CHECK.due("its worth", x.of(0, 0), 0);
        CHECK.due("mend(0, 0, 99)", x.mend(0, 0, 99), 0);
        CHECK.due("its worth", x.of(0, 0), 99);
        CHECK.due("mend(1, 0, 99)", x.mend(1, 0, 99), 0);
        CHECK.due("mend(2, 0, 0)", x.mend(2, 0, 0), 99);
        CHECK.due("four changes", x.count(4), 4);
        int[] beyond = {-1, 100, MIN, MAX};
        for (int v : beyond) {
            UNCHANGED.due(World.values(), "mend(0, 0, " + v + ")", y -> y.mend(0, 0, v), -1);
        }
        UNCHANGED.due(World.FOUR, "mend(3, 0, 100)", y -> y.mend(3, 0, 100), -1);
    }

    /** "whether a MATCH COUNTS (1; v 0, 1) becomes v: what it was." */
    private static void mendsWhetherItCountsBy0And1() {
        SecondBest x = Made.with(2, 1);
        CHECK.due("mend(0, 1, 0)", x.mend(0, 1, 0), 1);
        CHECK.due("it does not count", x.of(0, 12), 0);
        CHECK.due("mend(0, 1, 1)", x.mend(0, 1, 1), 0);
        CHECK.due("it counts", x.of(0, 12), 1);
        int[] beyond = {-1, 2, 99, MIN, MAX};
        for (int v : beyond) {
            UNCHANGED.due(World.values(), "mend(0, 1, " + v + ")", y -> y.mend(0, 1, v), -1);
        }
        UNCHANGED.due(World.FULL, "mend(11, 1, 2)", y -> y.mend(11, 1, 2), -1);
    }

    /** mend: "BAD": no such PLAYER, no such MATCH. */
    private static void mendsWhoIsThere() {
        for (int n = 0; n <= 8; n++) {
            SecondBest x = Made.with(n);
            CHECK.due("mend the last of " + n, x.mend(n - 1, 0, 77), n == 0 ? -1 : n - 1);
            CHECK.due("mend one behind the last of " + n, x.mend(n, 0, 77), -1);
            CHECK.due("how many changes", x.count(4), n == 0 ? 0 : 1);
        }
        for (int n = 0; n <= 12; n++) {
            SecondBest x = Made.with(2);
            for (int m = 0; m < n; m++) {
                x.match(1);
            }
            CHECK.due("mend the last of " + n + " matches", x.mend(n - 1, 1, 0), n == 0 ? -1 : 1);
            CHECK.due("mend one behind the last of " + n + " matches", x.mend(n, 1, 0), -1);
            CHECK.due("how many changes", x.count(4), n == 0 ? 0 : 1);
        }
        int[] nobody = {-1, 8, 12, MIN, MAX};
        for (int number : nobody) {
            UNCHANGED.due(World.values(), "mend(" + number + ", 0, 7)", y -> y.mend(number, 0, 7), -1);
        }
        int[] none = {-1, 12, MIN, MAX};
        for (int number : none) {
            UNCHANGED.due(World.values(), "mend(" + number + ", 1, 0)", y -> y.mend(number, 1, 0), -1);
        }
    }

    /** mend: what 0, 1 and no other. */
    private static void mendsWhat0And1() {
        int[] beyond = {-1, 2, 10, 12, MIN, MAX};
        for (int what : beyond) {
            UNCHANGED.due(World.values(), "mend(0, " + what + ", 0)", y -> y.mend(0, what, 0), -1);
            UNCHANGED.due(World.FULL, "mend(0, " + what + ", 1)", y -> y.mend(0, what, 1), -1);
        }
    }

    /** of: "BAD": no such PLAYER, no such MATCH. */
    private static void tellsOfWhoIsThere() {
        for (int n = 0; n <= 8; n++) {
            SecondBest x = Made.with(n);
            for (int what = 0; what <= 3; what++) {
                CHECK.due("of the last of " + n, x.of(n - 1, what), n == 0 ? -1 : what == 0 ? n - 1 : 0);
                CHECK.due("of one behind the last of " + n, x.of(n, what), -1);
                CHECK.due("of one ahead of the first", x.of(-1, what), -1);
            }
        }
        for (int n = 0; n <= 12; n++) {
            SecondBest x = Made.with(2);
            for (int m = 0; m < n; m++) {
                x.match(10);
            }
            int[] told = {1, 0, 1};
            for (int what = 10; what <= 12; what++) {
                CHECK.due("of the last of " + n + " matches", x.of(n - 1, what), n == 0 ? -1 : told[what - 10]);
                CHECK.due("of one behind the last of " + n + " matches", x.of(n, what), -1);
                CHECK.due("of one ahead of the first match", x.of(-1, what), -1);
            }
        }
        int[] nobody = {-1, 12, MIN, MAX};
        for (int number : nobody) {
            UNCHANGED.due(World.values(), "of(" + number + ", 0)", y -> y.of(number, 0), -1);
            UNCHANGED.due(World.values(), "of(" + number + ", 10)", y -> y.of(number, 10), -1);
        }
    }

    /** "Of a PLAYER: 0 WORTH, 1 won, 2 lost, 3 points; of a MATCH: 10 who won, 11 who lost, 12 whether it COUNTS." */
    private static void tellsWhat0To3And10To12() {
        SecondBest x = Made.ofWorths(44, 55);
        x.match(10);
        int[] of0 = {44, 0, 1, 0};
        for (int what = 0; what <= 3; what++) {
            CHECK.due("of(0, " + what + ")", x.of(0, what), of0[what]);
        }
        CHECK.due("of(0, 10)", x.of(0, 10), 1);
        CHECK.due("of(0, 11)", x.of(0, 11), 0);
        CHECK.due("of(0, 12)", x.of(0, 12), 1);
        int[] beyond = {-1, 4, 5, 9, 13, 14, 20, MIN, MAX};
        for (int what : beyond) {
            UNCHANGED.due(World.values(), "of(0, " + what + ")", y -> y.of(0, what), -1);
        }
    }

    /** "LED: how many MATCHES that COUNT a PLAYER won, lost": none, and all twelve. */
    private static void wonAndLostThatCount() {
        SecondBest x = Made.with(2);
        for (int m = 0; m <= 12; m++) {
            CHECK.due("won by 1", x.of(1, 1), m);
            CHECK.due("points of 1", x.of(1, 3), m);
            CHECK.due("lost by 1", x.of(1, 2), 0);
            CHECK.due("won by 0", x.of(0, 1), 0);
            CHECK.due("points of 0", x.of(0, 3), 0);
            CHECK.due("lost by 0", x.of(0, 2), m);
            x.match(10);
        }
        for (int m = 11; m >= 0; m--) {
            x.mend(m, 1, 0);
            CHECK.due("won by 1", x.of(1, 1), m);
            CHECK.due("points of 1", x.of(1, 3), m);
            CHECK.due("lost by 0", x.of(0, 2), m);
        }
    }
}
