/** Promises 21 to 25: cup, likely, friend, lots, champion. */
public final class CupsTest {
    private static final Check CHECK = new Check();

    public static void main(String[] args) {
        row();
        likelyOfFour();
        likelyOfEight();
        sureCups();
        friends();
        lots();
        champions();
        CHECK.end();
    }

    private static void adopt(SecondBest x, String text) {
        CHECK.due("law of " + text, Made.adopt(x, text), 1);
    }

    private static void row() {
        SecondBest x = Made.ofWorths(1, 2, 3, 4, 5, 6, 7, 8);
        int[] bad = {-2, 8, 100, Integer.MIN_VALUE, Integer.MAX_VALUE};
        for (int p : bad) {
            CHECK.due("cup(" + p + ")", x.cup(p), -1);
        }
        for (int p = 7; p >= 0; p--) {
            CHECK.due("cup(" + p + ")", x.cup(p), 8 - p);
            CHECK.due("cup(" + p + ") again", x.cup(p), -1);
            CHECK.due("in the row", x.count(2), 8 - p);
        }
        CHECK.due("in a full row: BAD", x.cup(3), -1);
        CHECK.due("cup(-1)", x.cup(-1), 0);
        CHECK.due("none in the row", x.count(2), 0);
        CHECK.due("cup(3)", x.cup(3), 1);
    }

    private static void likely(SecondBest x, int player, int what, long above, long below) {
        CHECK.due("likely(" + player + ", " + what + ", 0)", x.likely(player, what, 0), above);
        CHECK.due("likely(" + player + ", " + what + ", 1)", x.likely(player, what, 1), below);
    }

    private static void likelyOfFour() {
        SecondBest x = Made.seated(Made.ofWorths(50, 50, 50, 50), 0, 1, 2, 3);
        for (int p = 0; p < 4; p++) {
            likely(x, p, 0, 1, 4);
            likely(x, p, 1, 1, 2);
            likely(x, p, 2, 1, 2);
        }
        // 0 beats 1 by 60, 2 beats 3 by 30; then 0 beats 2 by 80, 3 by 90, and so on.
        SecondBest y = Made.seated(Made.ofWorths(0, 0, 0, 0, 0), 0, 1, 2, 3);
        adopt(y, "r=0&b=1?60;r=0?30;a=0?b*10+60;50");
        likely(y, 0, 1, 3, 5);
        likely(y, 0, 2, 2, 5);
        likely(y, 2, 1, 3, 10);
        likely(y, 3, 2, 3, 10);
        // 60 by 100, times 30 by 100 times 80 by 100 and 70 by 100 times 90 by 100.
        likely(y, 0, 0, 261, 500);
        long[][] bad = {{4, 0, 0}, {-1, 0, 0}, {5, 0, 0}, {0, 3, 0}, {0, -1, 0}, {0, 0, 2}, {0, 0, -1}};
        for (long[] b : bad) {
            CHECK.due("likely(" + b[0] + ", " + b[1] + ", " + b[2] + ")",
                y.likely((int) b[0], (int) b[1], (int) b[2]), Long.MIN_VALUE);
        }
        y.cup(4);
        CHECK.due("a row of five", y.likely(0, 0, 0), Long.MIN_VALUE);
        CHECK.due("a row of three", Made.seated(y, 0, 1, 2).likely(0, 0, 0), Long.MIN_VALUE);
        CHECK.due("a row of none", Made.seated(y).likely(0, 0, 0), Long.MIN_VALUE);
    }

    private static void likelyOfEight() {
        SecondBest x = Made.seated(Made.ofWorths(50, 50, 50, 50, 50, 50, 50, 50), 0, 1, 2, 3, 4, 5, 6, 7);
        for (int p = 0; p < 8; p++) {
            likely(x, p, 0, 1, 8);
            likely(x, p, 1, 1, 4);
            likely(x, p, 2, 1, 2);
        }
        adopt(x, "51");
        likely(x, 0, 2, 49, 100);
        likely(x, 0, 1, 2601, 10000);
        likely(x, 0, 0, 132651, 1000000);
        likely(x, 7, 0, 117649, 1000000);
        // 99, 98, 97 of 100 for the lesser number in each round.
        adopt(x, "99-r");
        likely(x, 0, 0, 99L * 49 * 97, 500000);
        // 1 must beat 0, then 2 or 3, then one of 4 to 7.
        likely(x, 1, 0, 49L * 97, 500000);
    }

    private static void sureCups() {
        SecondBest x = Made.seated(Made.ofWorths(1, 2, 3, 4, 5, 6, 7, 8), 3, 0, 5, 2, 7, 1, 4, 6);
        adopt(x, "100");
        for (int p = 0; p < 8; p++) {
            likely(x, p, 0, p == 0 ? 1 : 0, 1);
            likely(x, p, 1, p <= 1 ? 1 : 0, 1);
            likely(x, p, 2, p == 3 || p == 5 || p == 7 || p == 6 ? 1 : 0, 1);
            CHECK.due("lots", x.lots(7, 50, p), p == 0 ? 50 : 0);
        }
        adopt(x, "0");
        for (int p = 0; p < 8; p++) {
            likely(x, p, 0, p == 7 ? 1 : 0, 1);
            CHECK.due("lots", x.lots(7, 50, p), p == 7 ? 50 : 0);
        }
    }

    private static void friends() {
        SecondBest x = Made.seated(Made.ofWorths(0, 0, 0, 0, 0), 0, 1, 2, 3);
        CHECK.due("all alike: the first", x.friend(3), 0);
        // 0 beats 3 and 3 beats 1 and 2, who both beat 0: 0 is best off to meet 3 at last, and that can't be at first.
        adopt(x, "a=0?(b=3)*100;b=3?0;50");
        CHECK.due("0 with 1: out at once; with 2: likewise; with 3: out at last", x.friend(0), 0);
        CHECK.due("3 loses to 0 alone, who is out by 1", x.friend(3), 0);
        CHECK.due("1 loses to 3 alone, who is out by 0", x.friend(1), 2);
        CHECK.due("2 likewise", x.friend(2), 2);
        Made.seated(x, 3, 0, 1, 2);
        CHECK.due("3 with 0, or else", x.friend(3), 1);
        CHECK.due("1: 3 with 0 is the row's first with its second", x.friend(1), 0);
        // 0 is beaten by 1 alone, and 1 by 3 alone: of the pairings of 2 with 0, 1, 3 that of 3 with 1 is for 0.
        Made.seated(x, 2, 0, 1, 3);
        adopt(x, "a=0?(b>1)*100;a=1?(b=2)*100;50");
        CHECK.due("2 with 0, 1 with 3", x.friend(0), 0);
        Made.seated(x, 2, 1, 0, 3);
        CHECK.due("2 with 0 is the second way", x.friend(0), 1);
        Made.seated(x, 2, 1, 3, 0);
        CHECK.due("2 with 0 is the third way", x.friend(0), 2);
        Made.seated(x, 2, 3, 1, 0);
        CHECK.due("no such player", x.friend(5), -1);
        CHECK.due("not in the row", x.friend(4), -1);
        CHECK.due("friend(-1)", x.friend(-1), -1);
        x.cup(4);
        CHECK.due("a row of five", x.friend(0), -5);
        Made.seated(x, 0, 1, 2);
        CHECK.due("a row of three", x.friend(0), -5);
        CHECK.due("BAD stands ahead of STATE", x.friend(3), -1);
    }

    private static void lots() {
        SecondBest x = Made.seated(Made.ofWorths(50, 50, 50, 50, 50), 0, 1, 2, 3);
        int z = 0;
        int[] drawn = new int[3];
        for (int i = 0; i < 3; i++) {
            z = z * 1103515245 + 12345;
            drawn[i] = (z >>> 8) % 100;
        }
        int first = drawn[0] < 50 ? 0 : 1;
        int second = drawn[1] < 50 ? 2 : 3;
        int winner = drawn[2] < 50 ? first : second;
        int sum = 0;
        for (int p = 0; p < 4; p++) {
            CHECK.due("lots(0, 1, " + p + ")", x.lots(0, 1, p), p == winner ? 1 : 0);
            sum += x.lots(-77, 50, p);
        }
        CHECK.due("each cup has one winner", sum, 50);
        int[][] bad = {{0, 0, 0}, {0, 51, 0}, {0, -1, 0}, {0, 1, 4}, {0, 1, 5}, {0, 1, -1}};
        for (int[] b : bad) {
            CHECK.due("lots(" + b[0] + ", " + b[1] + ", " + b[2] + ")", x.lots(b[0], b[1], b[2]), -1);
        }
        x.cup(4);
        CHECK.due("a row of five", x.lots(0, 1, 0), -5);
        CHECK.due("BAD stands ahead of STATE", x.lots(0, 51, 0), -1);
        // The lesser number is asked for, wherever it sits.
        adopt(x, "a=0?100;50");
        CHECK.due("0 wins, wherever it sits", Made.seated(x, 3, 1, 2, 0).lots(5, 50, 0), 50);
    }

    private static void champions() {
        SecondBest x = Made.ofWorths(10, 90, 80, 70, 60, 50, 40, 30);
        CHECK.due("no row", x.champion(0), -5);
        CHECK.due("champion(2)", x.champion(2), -1);
        CHECK.due("champion(-1)", x.champion(-1), -1);
        Made.seated(x, 1, 3, 2, 4);
        CHECK.due("champion", x.champion(0), 1);
        CHECK.due("second, who lost to the champion", x.champion(1), 2);
        Made.seated(x, 1, 7, 6, 5, 2, 3, 4, 0);
        CHECK.due("champion of eight", x.champion(0), 1);
        CHECK.due("second of eight", x.champion(1), 2);
        Made.seated(x, 0, 7, 6, 5);
        CHECK.due("champion", x.champion(0), 5);
        CHECK.due("second", x.champion(1), 6);
        Made.seated(x, 5, 4, 3, 1);
        CHECK.due("champion", x.champion(0), 1);
        CHECK.due("of those beaten by the champion", x.champion(1), 3);
        Made.seated(x, 3, 4, 5, 1);
        CHECK.due("the other half's best", x.champion(1), 3);
        Made.seated(x, 2, 3, 1, 0);
        CHECK.due("2 and 0 lost to 1, not 3", x.champion(1), 2);
        Made.seated(x, 1, 0, 7, 6, 5);
        CHECK.due("a row of five", x.champion(0), -5);
        SecondBest like = Made.seated(Made.ofWorths(50, 50, 50, 50), 3, 2, 1, 0);
        CHECK.due("like worths: the least", like.champion(0), 0);
        CHECK.due("like worths: 1 and 2 lost to 0", like.champion(1), 1);
        like.mend(2, 0, 51);
        CHECK.due("more worth", like.champion(0), 2);
        CHECK.due("0 and 3 lost to 2", like.champion(1), 0);
    }
}
