/** Promises 1, 2, 3, 5, 6: a new object, player, match, mend, of. */
public final class PlayersTest {
    private static final Check CHECK = new Check();

    public static void main(String[] args) {
        newObject();
        players();
        matches();
        mended();
        told();
        CHECK.end();
    }

    private static void newObject() {
        SecondBest x = new SecondBest();
        for (int what = 0; what <= 6; what++) {
            CHECK.due("new: count(" + what + ")", x.count(what), 0);
        }
        CHECK.due("new: of(0, 0)", x.of(0, 0), -1);
        CHECK.due("new: of(0, 10)", x.of(0, 10), -1);
        CHECK.due("new: trace(0)", x.trace(0), -1);
        CHECK.due("new: undo()", x.undo(), -5);
        CHECK.due("new: redo()", x.redo(), -5);
        CHECK.due("new: taken(0, 0)", x.taken(0, 0), -11);
        CHECK.due("new: element(5, 0)", x.element(5, 0), Long.MIN_VALUE);
        CHECK.due("new: put(5, 0, 1)", x.put(5, 0, 1), -11);
    }

    private static void players() {
        SecondBest x = new SecondBest();
        CHECK.due("player(-1)", x.player(-1), -1);
        CHECK.due("player(100)", x.player(100), -1);
        CHECK.due("player(MIN)", x.player(Integer.MIN_VALUE), -1);
        CHECK.due("player(MAX)", x.player(Integer.MAX_VALUE), -1);
        CHECK.due("none came", x.count(0), 0);
        int[] worths = {0, 99, 50, 50, 1, 98, 7, 33};
        for (int p = 0; p < 8; p++) {
            CHECK.due("player(" + worths[p] + ")", x.player(worths[p]), p);
            CHECK.due("worth of " + p, x.of(p, 0), worths[p]);
            CHECK.due("how many players", x.count(0), p + 1);
        }
        CHECK.due("the ninth", x.player(5), -3);
        CHECK.due("BAD stands ahead of FULL", x.player(100), -1);
        CHECK.due("still eight", x.count(0), 8);
    }

    private static void matches() {
        SecondBest x = new SecondBest();
        CHECK.due("match(1), nobody there", x.match(1), -1);
        for (int p = 0; p < 3; p++) {
            x.player(p);
        }
        int[] bad = {0, 11, 22, 3, 30, 33, -1, -10, -12, 100, 101, 121, Integer.MAX_VALUE, Integer.MIN_VALUE};
        for (int wl : bad) {
            CHECK.due("match(" + wl + ")", x.match(wl), -1);
        }
        int[] good = {1, 1, 10, 12, 21, 20, 2, 1, 10, 12, 21, 20};
        for (int m = 0; m < 12; m++) {
            CHECK.due("match(" + good[m] + ")", x.match(good[m]), m);
            CHECK.due("who won " + m, x.of(m, 10), good[m] / 10);
            CHECK.due("who lost " + m, x.of(m, 11), good[m] % 10);
            CHECK.due("counts " + m, x.of(m, 12), 1);
            CHECK.due("how many matches", x.count(1), m + 1);
        }
        CHECK.due("the thirteenth", x.match(1), -3);
        CHECK.due("BAD stands ahead of FULL", x.match(11), -1);
        CHECK.due("still twelve", x.count(1), 12);
    }

    private static void mended() {
        SecondBest x = new SecondBest();
        x.player(10);
        x.player(20);
        x.match(1);
        CHECK.due("mend(1, 0, 99)", x.mend(1, 0, 99), 20);
        CHECK.due("mend(1, 0, 0)", x.mend(1, 0, 0), 99);
        CHECK.due("its worth", x.of(1, 0), 0);
        CHECK.due("the same again", x.mend(1, 0, 0), 0);
        CHECK.due("the same is no change", x.count(4), 2);
        CHECK.due("mend(0, 1, 0)", x.mend(0, 1, 0), 1);
        CHECK.due("it does not count", x.of(0, 12), 0);
        CHECK.due("mend(0, 1, 1)", x.mend(0, 1, 1), 0);
        CHECK.due("it counts", x.of(0, 12), 1);
        int[][] bad = {{2, 0, 5}, {-1, 0, 5}, {0, 0, -1}, {0, 0, 100}, {1, 1, 0}, {-1, 1, 0}, {0, 1, 2}, {0, 1, -1},
            {0, 2, 0}, {0, -1, 0}, {0, 10, 0}};
        for (int[] b : bad) {
            CHECK.due("mend(" + b[0] + ", " + b[1] + ", " + b[2] + ")", x.mend(b[0], b[1], b[2]), -1);
        }
        CHECK.due("BAD changes nothing", x.count(4), 4);
    }

    private static void told() {
        SecondBest x = new SecondBest();
        x.player(10);
        x.player(20);
        x.player(30);
        x.match(1);
        x.match(2);
        x.match(21);
        x.match(10);
        int[][] want = {{10, 2, 1, 2}, {20, 1, 2, 1}, {30, 1, 1, 1}};
        for (int p = 0; p < 3; p++) {
            for (int what = 0; what < 4; what++) {
                CHECK.due("of(" + p + ", " + what + ")", x.of(p, what), want[p][what]);
            }
        }
        x.mend(0, 1, 0);
        CHECK.due("won that count", x.of(0, 1), 1);
        CHECK.due("points that count", x.of(0, 3), 1);
        CHECK.due("lost that count", x.of(1, 2), 1);
        CHECK.due("who won, though it does not count", x.of(0, 10), 0);
        int[][] bad = {{3, 0}, {-1, 0}, {0, 4}, {0, -1}, {0, 9}, {0, 13}, {4, 10}, {-1, 10}, {4, 12}, {3, 3}};
        for (int[] b : bad) {
            CHECK.due("of(" + b[0] + ", " + b[1] + ")", x.of(b[0], b[1]), -1);
        }
        CHECK.due("a match that is no player's number", x.of(3, 11), 0);
    }
}
