/** The ends that promises 21 to 25 and their terms name: cup, likely, friend, lots, champion. */
public final class BoundsCupsTest {
    private static final Check CHECK = new Check();
    private static final Unchanged UNCHANGED = new Unchanged(CHECK);
    private static final int MIN = Integer.MIN_VALUE, MAX = Integer.MAX_VALUE;
    private static final long NONE = Long.MIN_VALUE;
    private static final World[] NEITHER_4_NOR_8 = {World.ONE, World.TORN, World.FIVE, World.SIX};

    public static void main(String[] args) {
        rowOfUnlikeOnes();
        rowIsEmptyThen();
        badPlayerInAFullRow();
        rowOf4Or8();
        likelyOfWhoIsInTheRow();
        likelyWhatIs0To2();
        likelyPartIs0And1();
        sureAndNever();
        pastTheEndOfInt();
        friendOfFour();
        friendOfWhoIsInTheRow();
        friendBadAheadOfState();
        friendTheFirstOfLikeOnes();
        lotsAre1To50();
        lotsOfWhoIsInTheRow();
        lotsOf4Or8();
        lotsBadAheadOfState();
        lotsBelowTheLawsNumber();
        lotsWrap();
        lotsRoundByRound();
        championWhatIs0And1();
        championOf4Or8();
        championBadAheadOfState();
        championOfLikeWorths();
        CHECK.end();
    }

    /** The first so many of eight in the row. */
    private static SecondBest rowOf(int many) {
        SecondBest x = Made.ofWorths(50, 50, 50, 50, 50, 50, 50, 50);
        for (int p = 0; p < many; p++) {
            x.cup(p);
        }
        return x;
    }

    /** "a row of PLAYERS told by hand (unlike ones)"; "BAD (also, if in it)". */
    private static void rowOfUnlikeOnes() {
        SecondBest x = Made.with(8);
        for (int p = 0; p < 8; p++) {
            CHECK.due("cup(" + p + ")", x.cup(p), p + 1);
            for (int q = 0; q <= p; q++) {
                CHECK.due("cup(" + q + ") again", x.cup(q), -1);
            }
            CHECK.due("in the row", x.count(2), p + 1);
        }
        for (int p : new int[] {-2, 8, 9, 12, MIN, MAX}) {
            UNCHANGED.due(World.values(), "cup(" + p + ")", y -> y.cup(p), -1);
        }
        UNCHANGED.due(World.EMPTY, "cup(0) of nobody", y -> y.cup(0), -1);
        for (int p = 0; p < 4; p++) {
            int player = p;
            UNCHANGED.due(World.FOUR, "cup(" + p + ") again", y -> y.cup(player), -1);
            UNCHANGED.due(World.FIVE, "cup(" + p + ") again", y -> y.cup(player), -1);
        }
        UNCHANGED.due(World.FOUR, "cup(4) of four", y -> y.cup(4), -1);
    }

    /** "player -1: it is empty then, 0." */
    private static void rowIsEmptyThen() {
        for (int many = 0; many <= 8; many++) {
            SecondBest x = rowOf(many);
            CHECK.due("cup(-1) of " + many, x.cup(-1), 0);
            CHECK.due("none in the row", x.count(2), 0);
            CHECK.due("cup(-1) of none", x.cup(-1), 0);
            CHECK.due("who was in it may come", x.cup(0), 1);
            CHECK.due("who was in it may come", x.cup(7), 2);
        }
        UNCHANGED.due(new World[] {World.EMPTY, World.STORED}, "cup(-1)", y -> y.cup(-1), 0);
    }

    /** BAD is named first, then "FULL: 8": of eight in the row there is no ninth who is not. */
    private static void badPlayerInAFullRow() {
        for (int p = 0; p < 9; p++) {
            int player = p;
            UNCHANGED.due(World.FULL, "cup(" + p + ") in a row of eight", y -> y.cup(player), -1);
        }
    }

    /** "Long.MIN_VALUE: .. or the row has neither 4 nor 8." */
    private static void rowOf4Or8() {
        for (int many = 0; many <= 8; many++) {
            boolean is = many == 4 || many == 8;
            SecondBest x = rowOf(many);
            for (int what = 0; what < 3; what++) {
                CHECK.due("likely(0, " + what + ", 0) in a row of " + many, x.likely(0, what, 0), is ? 1 : NONE);
                long below = what == 2 ? 2 : what == 1 ? many / 2 : many;
                CHECK.due("likely(0, " + what + ", 1) in a row of " + many, x.likely(0, what, 1), is ? below : NONE);
            }
        }
        for (int what = 0; what < 3; what++) {
            int which = what;
            UNCHANGED.due(NEITHER_4_NOR_8, "likely(0, " + what + ", 0)", y -> y.likely(0, which, 0), NONE);
            UNCHANGED.due(NEITHER_4_NOR_8, "likely(1, " + what + ", 1)", y -> y.likely(1, which, 1), NONE);
        }
    }

    /** "BAD (not in the row, too)". */
    private static void likelyOfWhoIsInTheRow() {
        SecondBest x = Made.seated(Made.with(8), 7, 2, 5, 3);
        for (int p = -1; p <= 8; p++) {
            boolean is = p == 7 || p == 2 || p == 5 || p == 3;
            CHECK.due("likely(" + p + ", 2, 1) is BAD", x.likely(p, 2, 1) == NONE ? 1 : 0, is ? 0 : 1);
        }
        for (int p : new int[] {-1, 8, MIN, MAX}) {
            UNCHANGED.due(World.values(), "likely(" + p + ", 0, 0)", y -> y.likely(p, 0, 0), NONE);
        }
        UNCHANGED.due(World.FOUR, "likely(4, 0, 0) of four", y -> y.likely(4, 0, 0), NONE);
        SecondBest gone = Made.seated(Made.with(8), 0, 1, 2, 3);
        CHECK.due("in the row", gone.likely(3, 0, 1) == NONE ? 1 : 0, 0);
        Made.seated(gone, 4, 5, 6, 7);
        CHECK.due("no more in the row", gone.likely(3, 0, 1), NONE);
    }

    /** "WINS (what 0), FINAL (1), FIRST (2)". */
    private static void likelyWhatIs0To2() {
        SecondBest x = rowOf(8);
        CHECK.due("wins", x.likely(7, 0, 1), 8);
        CHECK.due("final", x.likely(7, 1, 1), 4);
        CHECK.due("first", x.likely(7, 2, 1), 2);
        for (int what : new int[] {-1, 3, MIN, MAX}) {
            UNCHANGED.due(World.values(), "likely(0, " + what + ", 0)", y -> y.likely(0, what, 0), NONE);
        }
    }

    /** "part 0 above, 1 below the line." */
    private static void likelyPartIs0And1() {
        SecondBest x = rowOf(4);
        CHECK.due("above", x.likely(3, 0, 0), 1);
        CHECK.due("below", x.likely(3, 0, 1), 4);
        for (int part : new int[] {-1, 2, MIN, MAX}) {
            UNCHANGED.due(World.values(), "likely(0, 0, " + part + ")", y -> y.likely(0, 0, part), NONE);
        }
    }

    /** "fractions in lowest terms": 0 by 1, 1 by 1. */
    private static void sureAndNever() {
        for (int many = 4; many <= 8; many += 4) {
            SecondBest x = rowOf(many);
            CHECK.due("law()", Made.adopt(x, "100"), 1);
            int last = many - 1;
            long[] first = {1, 1, 0};
            for (int what = 0; what < 3; what++) {
                CHECK.due("0 above, what " + what, x.likely(0, what, 0), first[what]);
                CHECK.due("0 below, what " + what, x.likely(0, what, 1), 1);
                CHECK.due("the last above, what " + what, x.likely(last, what, 0), 1 - first[what]);
                CHECK.due("the last below, what " + what, x.likely(last, what, 1), 1);
            }
        }
    }

    /** "long likely": numbers beyond an int, up to the fourteenth power of ten. */
    private static void pastTheEndOfInt() {
        SecondBest x = rowOf(8);
        CHECK.due("law()", Made.adopt(x, "b*3+r*10+58"), 1);
        // Worked out apart, with whole numbers: nothing can be cut from these.
        CHECK.due("above the line", x.likely(0, 0, 0), 41889154407117L);
        CHECK.due("below the line", x.likely(0, 0, 1), 100000000000000L);
        CHECK.due("above the line of the final", x.likely(0, 1, 0), 457439);
        CHECK.due("below the line of the final", x.likely(0, 1, 1), 1000000);
        CHECK.due("above the line of the first", x.likely(0, 2, 0), 39);
        CHECK.due("below the line of the first", x.likely(0, 2, 1), 100);
    }

    /** "STATE: the row has not 4." */
    private static void friendOfFour() {
        for (int many = 1; many <= 8; many++) {
            CHECK.due("friend(0) in a row of " + many, rowOf(many).friend(0), many == 4 ? 0 : -5);
        }
        UNCHANGED.due(World.ONE, "friend(0)", y -> y.friend(0), -5);
        UNCHANGED.due(World.TORN, "friend(0)", y -> y.friend(0), -5);
        UNCHANGED.due(World.FIVE, "friend(4)", y -> y.friend(4), -5);
        UNCHANGED.due(World.FULL, "friend(7)", y -> y.friend(7), -5);
    }

    /** friend: "BAD (not in the row, too)". */
    private static void friendOfWhoIsInTheRow() {
        for (int p : new int[] {-1, 8, MIN, MAX}) {
            UNCHANGED.due(World.values(), "friend(" + p + ")", y -> y.friend(p), -1);
        }
        UNCHANGED.due(World.FOUR, "friend(4)", y -> y.friend(4), -1);
        CHECK.due("in no row", rowOf(4).friend(4), -1);
        CHECK.due("the last of the row", rowOf(4).friend(3), 0);
    }

    /** BAD is named first, then STATE. */
    private static void friendBadAheadOfState() {
        for (int many = 0; many < 8; many++) {
            CHECK.due("friend(" + many + ") in a row of " + many, rowOf(many).friend(many), -1);
        }
        UNCHANGED.due(World.SIX, "friend(0), who is not in the row of five", y -> y.friend(0), -1);
    }

    /** "that by which a told one of them wins most likely (the first): which": 0, 1, 2. */
    private static void friendTheFirstOfLikeOnes() {
        for (int p = 0; p < 4; p++) {
            CHECK.due("all alike", rowOf(4).friend(p), 0);
        }
        SecondBest sure = rowOf(4);
        CHECK.due("law()", Made.adopt(sure, "100"), 1);
        CHECK.due("0 wins by each", sure.friend(0), 0);
        CHECK.due("3 wins by none", sure.friend(3), 0);
        CHECK.due("2 wins by none, though it may be in the final", sure.friend(2), 0);
        SecondBest x = rowOf(5);
        // 0 beats all but 1; 1 is beaten by 2 alone, by 3 alone: then 0 is best off if 1 meets that one first.
        CHECK.due("law()", Made.adopt(x, "a=0?(b>1)*100;a=1?(b=3)*100;100"), 1);
        CHECK.due("1 with 2: the first with the fourth", Made.seated(x, 0, 1, 2, 3).friend(0), 2);
        CHECK.due("law()", Made.adopt(x, "a=0?(b>1)*100;a=1?(b=2)*100;100"), 1);
        CHECK.due("1 with 3: the first with the third", Made.seated(x, 0, 1, 2, 3).friend(0), 1);
        CHECK.due("1 with 3: the first with the second", Made.seated(x, 0, 2, 1, 3).friend(0), 0);
        // Who was fifth in an earlier row makes no fourth way.
        SecondBest stale = rowOf(5);
        CHECK.due("law()", Made.adopt(stale, "a=0&b=4?100;50"), 1);
        CHECK.due("three ways", Made.seated(stale, 0, 1, 2, 3).friend(0), 0);
        CHECK.due("three ways", Made.seated(stale, 4, 1, 2, 3).friend(4), 0);
        // By one hundredth more.
        CHECK.due("law()", Made.adopt(x, "r=0&a=0&b=3?51;50"), 1);
        CHECK.due("0 with 3 first", Made.seated(x, 0, 1, 2, 3).friend(0), 2);
        CHECK.due("3 with 1: like many as with 2", Made.seated(x, 0, 1, 2, 3).friend(3), 0);
    }

    /** "n cups (1 .. 50)". */
    private static void lotsAre1To50() {
        SecondBest x = rowOf(4);
        CHECK.due("law()", Made.adopt(x, "100"), 1);
        CHECK.due("one", x.lots(0, 1, 0), 1);
        CHECK.due("fifty", x.lots(0, 50, 0), 50);
        CHECK.due("fifty, none won", x.lots(0, 50, 3), 0);
        for (int n : new int[] {0, -1, 51, MIN, MAX}) {
            UNCHANGED.due(World.values(), "lots(0, " + n + ", 0)", y -> y.lots(0, n, 0), -1);
        }
    }

    /** lots: "BAD (likewise)": not in the row, too. */
    private static void lotsOfWhoIsInTheRow() {
        for (int p : new int[] {-1, 8, MIN, MAX}) {
            UNCHANGED.due(World.values(), "lots(0, 1, " + p + ")", y -> y.lots(0, 1, p), -1);
        }
        UNCHANGED.due(World.FOUR, "lots(0, 1, 4)", y -> y.lots(0, 1, 4), -1);
        CHECK.due("not in the row of four", rowOf(4).lots(0, 1, 4), -1);
        CHECK.due("not in a row of none", rowOf(0).lots(0, 1, 0), -1);
    }

    /** lots: "STATE: the row has neither 4 nor 8." */
    private static void lotsOf4Or8() {
        for (int many = 1; many <= 8; many++) {
            SecondBest x = rowOf(many);
            CHECK.due("law()", Made.adopt(x, "100"), 1);
            CHECK.due("lots in a row of " + many, x.lots(1, 9, 0), many == 4 || many == 8 ? 9 : -5);
        }
        UNCHANGED.due(World.ONE, "lots(0, 1, 0)", y -> y.lots(0, 1, 0), -5);
        UNCHANGED.due(World.TORN, "lots(0, 50, 2)", y -> y.lots(0, 50, 2), -5);
        UNCHANGED.due(World.FIVE, "lots(0, 1, 4)", y -> y.lots(0, 1, 4), -5);
        UNCHANGED.due(World.SIX, "lots(0, 1, 5)", y -> y.lots(0, 1, 5), -5);
    }

    /** BAD is named first, then STATE. */
    private static void lotsBadAheadOfState() {
        UNCHANGED.due(NEITHER_4_NOR_8, "lots(0, 0, 1)", y -> y.lots(0, 0, 1), -1);
        UNCHANGED.due(NEITHER_4_NOR_8, "lots(0, 51, 1)", y -> y.lots(0, 51, 1), -1);
        UNCHANGED.due(World.SIX, "lots(0, 1, 0), who is not in the row", y -> y.lots(0, 1, 0), -1);
    }

    private static int z(int before) {
        return before * 1103515245 + 12345;
    }

    /** "PLAYER a (of the lesser number) beats b, if (z >>> 8) % 100 is below THE LAW's number". */
    private static void lotsBelowTheLawsNumber() {
        boolean[] seen = new boolean[100];
        int left = 100;
        for (int seed = 0; seed < 5000 && left > 0; seed++) {
            int drawn = (z(seed) >>> 8) % 100;
            if (!seen[drawn]) {
                seen[drawn] = true;
                left--;
                SecondBest x = rowOf(4);
                CHECK.due("law()", Made.adopt(x, "r=0&b=1?" + drawn + ";100"), 1);
                CHECK.due("drawn " + drawn + ", the number is no more", x.lots(seed, 1, 1), 1);
                CHECK.due("law()", Made.adopt(x, "r=0&b=1?" + (drawn + 1) + ";100"), 1);
                CHECK.due("drawn " + drawn + ", the number is more", x.lots(seed, 1, 0), 1);
            }
        }
        CHECK.due("numbers not drawn", left, 0);
    }

    /** "z = z * 1103515245 + 12345 (an int; SEED at first)". */
    private static void lotsWrap() {
        for (int seed : new int[] {0, 1, -1, MIN, MAX, MIN + 1, 1 << 30}) {
            int[] won = new int[4];
            long z = seed;
            for (int n = 0; n < 50; n++) {
                int[] drawn = new int[3];
                for (int i = 0; i < 3; i++) {
                    z = z * 1103515245L + 12345L & 0xffffffffL;
                    drawn[i] = (int) ((z >> 8) % 100);
                }
                int one = drawn[0] < 50 ? 0 : 1;
                int two = drawn[1] < 50 ? 2 : 3;
                won[drawn[2] < 50 ? one : two]++;
            }
            for (int p = 0; p < 4; p++) {
                CHECK.due("lots(" + seed + ", 50, " + p + ")", rowOf(4).lots(seed, 50, p), won[p]);
            }
        }
    }

    /** "match by match, round by round": of eight, the last match by the seventh number. */
    private static void lotsRoundByRound() {
        int[] row = {7, 0, 3, 5, 6, 2, 1, 4};
        int[] won = new int[8];
        int z = 77;
        for (int n = 0; n < 50; n++) {
            int[] in = row;
            for (int r = 0; r < 3; r++) {
                int[] on = new int[in.length / 2];
                for (int m = 0; m < on.length; m++) {
                    int a = Math.min(in[2 * m], in[2 * m + 1]);
                    int b = Math.max(in[2 * m], in[2 * m + 1]);
                    z = z(z);
                    on[m] = (z >>> 8) % 100 < 30 + a + 2 * b + 5 * r ? a : b;
                }
                in = on;
            }
            won[in[0]]++;
        }
        SecondBest x = Made.seated(rowOf(0), row);
        CHECK.due("law()", Made.adopt(x, "30+a+2*b+5*r"), 1);
        for (int p = 0; p < 8; p++) {
            CHECK.due("lots(77, 50, " + p + ") of eight", x.lots(77, 50, p), won[p]);
        }
    }

    /** "CHAMPION (what 0), SECOND (1). BAD". */
    private static void championWhatIs0And1() {
        SecondBest x = Made.seated(Made.with(4), 0, 1, 2, 3);
        CHECK.due("champion", x.champion(0), 3);
        CHECK.due("second", x.champion(1), 2);
        for (int what : new int[] {-1, 2, MIN, MAX}) {
            UNCHANGED.due(World.values(), "champion(" + what + ")", y -> y.champion(what), -1);
        }
    }

    /** champion: "STATE likewise." */
    private static void championOf4Or8() {
        for (int many = 0; many <= 8; many++) {
            boolean is = many == 4 || many == 8;
            CHECK.due("champion in a row of " + many, rowOf(many).champion(0), is ? 0 : -5);
            CHECK.due("second in a row of " + many, rowOf(many).champion(1), is ? 1 : -5);
        }
        World[] other = {World.EMPTY, World.ONE, World.TORN, World.FIVE, World.SIX, World.STORED};
        UNCHANGED.due(other, "champion(0)", y -> y.champion(0), -5);
        UNCHANGED.due(other, "champion(1)", y -> y.champion(1), -5);
    }

    /** BAD is named first, then STATE. */
    private static void championBadAheadOfState() {
        UNCHANGED.due(NEITHER_4_NOR_8, "champion(2)", y -> y.champion(2), -1);
        UNCHANGED.due(World.EMPTY, "champion(-1)", y -> y.champion(-1), -1);
    }

    /** "who has more WORTH (alike: the lesser number)"; "(of like ones the least number)". */
    private static void championOfLikeWorths() {
        SecondBest x = Made.seated(Made.ofWorths(50, 50, 50, 50, 50, 50, 50, 50), 7, 6, 5, 4, 3, 2, 1, 0);
        CHECK.due("all alike", x.champion(0), 0);
        CHECK.due("1, 2 and 4 lost to 0", x.champion(1), 1);
        x.mend(7, 0, 51);
        CHECK.due("one more", x.champion(0), 7);
        CHECK.due("6, 4 and 0 lost to 7", x.champion(1), 0);
        x.mend(4, 0, 51);
        CHECK.due("7 and 4 alike", x.champion(0), 4);
        CHECK.due("5, 7 and 0 lost to 4", x.champion(1), 7);
        x.mend(7, 0, 50);
        x.mend(4, 0, 49);
        x.mend(0, 0, 49);
        CHECK.due("0 and 4 one less", x.champion(0), 1);
        CHECK.due("0, 2 and 5 lost to 1", x.champion(1), 2);
        SecondBest ends = Made.seated(Made.ofWorths(0, 99, 0, 99), 0, 2, 1, 3);
        CHECK.due("1 of 99 and 99", ends.champion(0), 1);
        CHECK.due("3 of 99", ends.champion(1), 3);
    }
}
