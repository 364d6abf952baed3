/** Promise 39: count; and the constants of the face. */
public final class CountTest {
    private static final Check CHECK = new Check();

    public static void main(String[] args) {
        SecondBest x = new SecondBest();
        int[] bad = {-1, 7, 100, Integer.MIN_VALUE, Integer.MAX_VALUE};
        for (int what : bad) {
            CHECK.due("count(" + what + ")", x.count(what), -1);
        }
        x.player(1);
        x.player(2);
        x.player(3);
        x.match(1);
        x.match(12);
        x.cup(0);
        x.feed('a');
        x.feed('b');
        x.feed('+');
        x.feed('+');
        x.mend(0, 0, 9);
        x.mend(0, 0, 8);
        x.mend(0, 0, 7);
        x.mend(0, 0, 6);
        x.mend(0, 0, 5);
        for (int b = 0; b < 6; b++) {
            x.body(b);
        }
        x.act(3, 3, 1);
        int[] want = {3, 2, 1, 4, 5, 6, 7};
        for (int what = 0; what < 7; what++) {
            CHECK.due("count(" + what + ")", x.count(what), want[what]);
        }
        x.mend(0, 1, 0);
        CHECK.due("matches that do not count are counted", x.count(1), 2);
        CHECK.due("BAD", SecondBest.BAD, -1);
        CHECK.due("NOT", SecondBest.NOT, -2);
        CHECK.due("FULL", SecondBest.FULL, -3);
        CHECK.due("STATE", SecondBest.STATE, -5);
        CHECK.due("VOID", SecondBest.VOID, -2000000000);
        CHECK.end();
    }
}
