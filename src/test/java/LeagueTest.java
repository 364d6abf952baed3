/** Promises 26, 27: table, days. */
public final class LeagueTest {
    private static final Check CHECK = new Check();

    public static void main(String[] args) {
        nobody();
        tables();
        days();
        CHECK.end();
    }

    private static void nobody() {
        SecondBest x = Made.with(0);
        CHECK.due("no such place", x.table(0, 0), -1);
        CHECK.due("no such place", x.table(0, 1), -1);
        CHECK.due("place 0 as told, but no players", x.table(0, 2), -5);
        CHECK.due("not place 0", x.table(1, 2), -1);
        CHECK.due("no such what", x.table(0, 3), -1);
        CHECK.due("no days", x.days(4, -1), 0);
        CHECK.due("no match", x.days(4, 0), -1);
    }

    private static void tables() {
        // Won and lost: 0: 1, 2; 1: 2, 1; 2: 2, 0; 3: 1, 2; 4: 0, 1; 5: 0, 0.
        SecondBest x = Made.with(6, 10, 13, 20, 23, 1, 34);
        int[] who = {2, 1, 0, 3, 5, 4};
        int[] points = {2, 2, 1, 1, 0, 0};
        for (int place = 0; place < 6; place++) {
            CHECK.due("who is at " + place, x.table(place, 0), who[place]);
            CHECK.due("points at " + place, x.table(place, 1), points[place]);
        }
        CHECK.due("0 beat 1, who stands higher", x.table(0, 2), 1);
        x.mend(4, 1, 0);
        CHECK.due("not counted", x.table(0, 2), 0);
        CHECK.due("1 has lost none now", x.table(0, 0), 1);
        CHECK.due("3 has a point", x.table(2, 0), 3);
        int[][] bad = {{6, 0}, {-1, 0}, {6, 1}, {-1, 1}, {1, 2}, {-1, 2}, {0, 3}, {0, -1}, {Integer.MAX_VALUE, 0}};
        for (int[] b : bad) {
            CHECK.due("table(" + b[0] + ", " + b[1] + ")", x.table(b[0], b[1]), -1);
        }
        SecondBest like = Made.with(3, 10, 1, 20, 2);
        CHECK.due("0 won twice and lost twice", like.table(0, 0), 0);
        CHECK.due("then by number", like.table(1, 0), 1);
        CHECK.due("lost by who stands higher", like.table(0, 2), 2);
    }

    private static void days() {
        SecondBest x = Made.with(8, 1, 23, 45, 67, 2, 13, 10, 54);
        int[][] plans = {{0, 1, 2, 3, 4, 5, 6, 7}, {0, 0, 1, 1, 2, 2, 3, 3}, {0, 0, 0, 1, 1, 1, 2, 2}, {0, 0, 0, 0, 1, 1, 2, 1}};
        int[] all = {8, 4, 3, 3};
        for (int t = 1; t <= 4; t++) {
            CHECK.due("days by " + t, x.days(t, -1), all[t - 1]);
            for (int m = 0; m < 8; m++) {
                CHECK.due("day of " + m + " by " + t, x.days(t, m), plans[t - 1][m]);
            }
        }
        x.mend(0, 1, 0);
        CHECK.due("it does not count", x.days(4, 0), -2);
        CHECK.due("2 plays on day 0 still", x.days(4, 4), 1);
        CHECK.due("0 and 1 ahead of what was told earlier", x.days(4, 6), 0);
        CHECK.due("but not with three tables", x.days(3, 6), 2);
        x.mend(4, 1, 0);
        x.mend(5, 1, 0);
        CHECK.due("0 and 1 have no other", x.days(4, 6), 0);
        CHECK.due("earlier than an earlier one", x.days(4, 7), 1);
        int[][] bad = {{0, -1}, {5, -1}, {-1, -1}, {1, 8}, {1, -2}, {0, 0}, {5, 0}, {Integer.MAX_VALUE, -1}, {1, Integer.MIN_VALUE}};
        for (int[] b : bad) {
            CHECK.due("days(" + b[0] + ", " + b[1] + ")", x.days(b[0], b[1]), -1);
        }
        SecondBest twelve = Made.with(2, 1, 1, 1, 1, 1, 1, 1, 1, 1, 1, 1, 10);
        CHECK.due("the same two twelve times", twelve.days(4, -1), 12);
        CHECK.due("the last day", twelve.days(4, 11), 11);
    }
}
