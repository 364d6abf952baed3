/** Promises 9 to 13: orders, sure, places, clash, wrong. */
public final class OrdersTest {
    private static final Check CHECK = new Check();

    public static void main(String[] args) {
        nobody();
        free();
        chain();
        tree();
        clashes();
        fewestFalse();
        CHECK.end();
    }

    private static void nobody() {
        SecondBest x = Made.with(0);
        CHECK.due("one order of nobody", x.orders(-1), 1);
        CHECK.due("orders(0)", x.orders(0), -1);
        CHECK.due("orders(-2)", x.orders(-2), -1);
        CHECK.due("places(0)", x.places(0), -1);
        CHECK.due("sure(1)", x.sure(1), -1);
        CHECK.due("clash()", x.clash(), -2);
        CHECK.due("wrong()", x.wrong(), 0);
    }

    private static void free() {
        int all = 1;
        for (int n = 1; n <= 8; n++) {
            all *= n;
            SecondBest x = Made.with(n);
            CHECK.due("orders of " + n, x.orders(-1), all);
            for (int p = 0; p < n; p++) {
                CHECK.due("the first order at " + p, x.orders(p), p);
                CHECK.due("places of " + p + " of " + n, x.places(p), (1 << n) - 1);
            }
            CHECK.due("no such place", x.orders(n), -1);
            CHECK.due("no such place", x.orders(-2), -1);
            CHECK.due("no such player", x.places(n), -1);
            CHECK.due("no such player", x.places(-1), -1);
        }
        SecondBest x = Made.with(3);
        int[] bad = {0, 11, 22, 3, 13, 30, 31, -1, -12, 100, 102, Integer.MIN_VALUE, Integer.MAX_VALUE};
        for (int ab : bad) {
            CHECK.due("sure(" + ab + ")", x.sure(ab), -1);
        }
    }

    private static void chain() {
        SecondBest x = Made.with(8, 76, 65, 54, 43, 32, 21, 10);
        CHECK.due("one order", x.orders(-1), 1);
        for (int p = 0; p < 8; p++) {
            CHECK.due("at place " + p, x.orders(p), 7 - p);
            CHECK.due("places of " + p, x.places(p), 1 << 7 - p);
            for (int q = 0; q < p; q++) {
                CHECK.due("sure " + p + q, x.sure(10 * p + q), 1);
                CHECK.due("sure " + q + p, x.sure(10 * q + p), 2);
            }
        }
        x.mend(3, 1, 0);
        CHECK.due("two chains of four", x.orders(-1), 70);
        CHECK.due("not sure", x.sure(73), 0);
        CHECK.due("the first has the first ones first", x.orders(0), 3);
        CHECK.due("and so on", x.orders(4), 7);
        CHECK.due("places of 7", x.places(7), 1 + 2 + 4 + 8 + 16);
    }

    private static void tree() {
        SecondBest x = Made.with(5, 20, 21, 43);
        CHECK.due("orders", x.orders(-1), 20);
        int[] first = {2, 0, 1, 4, 3};
        for (int p = 0; p < 5; p++) {
            CHECK.due("the first order at " + p, x.orders(p), first[p]);
        }
        CHECK.due("places of 2", x.places(2), 1 + 2 + 4);
        CHECK.due("places of 0", x.places(0), 2 + 4 + 8 + 16);
        CHECK.due("places of 4", x.places(4), 1 + 2 + 4 + 8);
        CHECK.due("sure(20)", x.sure(20), 1);
        CHECK.due("sure(24)", x.sure(24), 0);
    }

    private static void clashes() {
        SecondBest x = Made.with(4, 1, 12, 30, 20, 31, 13);
        CHECK.due("clash()", x.clash(), 3);
        CHECK.due("no orders", x.orders(-1), 0);
        CHECK.due("no first order", x.orders(0), -2);
        CHECK.due("no such place all the same", x.orders(4), -1);
        CHECK.due("not sure", x.sure(1), 0);
        CHECK.due("no places", x.places(0), 0);
        x.mend(3, 1, 0);
        CHECK.due("the next clash", x.clash(), 5);
        x.mend(0, 1, 0);
        CHECK.due("3 beat 1, 1 beat 3", x.clash(), 5);
        x.mend(4, 1, 0);
        CHECK.due("none", x.clash(), -2);
        x.mend(3, 1, 1);
        CHECK.due("1 beat 2 beat 0, 3 beat 0, 1 beat 3", x.clash(), -2);
        CHECK.due("orders", x.orders(-1), 2);
    }

    private static void fewestFalse() {
        CHECK.due("of two the least", Made.with(2, 1, 10).wrong(), 1);
        CHECK.due("of three the one", Made.with(2, 1, 1, 10).wrong(), 4);
        CHECK.due("of three the one", Made.with(2, 10, 1, 1).wrong(), 1);
        CHECK.due("a ring: the least", Made.with(3, 1, 12, 20).wrong(), 1);
        CHECK.due("two rings through match 2", Made.with(4, 12, 30, 1, 20, 13).wrong(), 4);
        CHECK.due("two rings apart", Made.with(6, 1, 12, 20, 34, 45, 53).wrong(), 9);
        CHECK.due("fewest ahead of least", Made.with(2, 1, 1, 1, 10).wrong(), 8);
        CHECK.due("of like many the least", Made.with(4, 1, 1, 10, 12, 20).wrong(), 1 + 2);
        CHECK.due("six pairs both ways", Made.with(4, 1, 10, 2, 20, 3, 30, 12, 21, 13, 31, 23, 32).wrong(), 0x555);
        CHECK.due("six pairs both ways, the other way about",
            Made.with(4, 10, 1, 20, 2, 30, 3, 21, 12, 31, 13, 32, 23).wrong(), 0x555);
        SecondBest x = Made.with(2, 1, 10);
        x.mend(0, 1, 0);
        CHECK.due("what does not count is not false", x.wrong(), 0);
        // 0 to 7 in a ring (0 .. 7), 4 and 6 both ways (8, 9), 0 and 3 both ways (10, 11): three must go. 4>5>6
        // speaks against 9; match 0 is the least of the ring, and without it 10 is less than 11.
        SecondBest all = Made.with(8, 1, 12, 23, 34, 45, 56, 67, 70, 46, 64, 3, 30);
        CHECK.due("twelve matches of eight", all.wrong(), 1 + 0x200 + 0x400);
    }
}
