/** The ends that promises 9 to 13 and their terms name: orders, sure, places, clash, wrong. */
public final class BoundsOrdersTest {
    private static final Check CHECK = new Check();
    private static final Unchanged UNCHANGED = new Unchanged(CHECK);
    private static final int MIN = Integer.MIN_VALUE, MAX = Integer.MAX_VALUE;
    private static final int[] NEVER_TWO = {0, 11, 77, 8, 80, 78, 87, 100, 110, 801, -1, -10, -12, MIN, MAX};

    public static void main(String[] args) {
        howManyOrders();
        placeOfTheFirst();
        firstOrderOfNone();
        badPlaceAheadOfNot();
        sureIfInAll();
        sureOfNone();
        sureOfTwo();
        canBeAllPlaces();
        canBeNoPlace();
        placesOfAPlayer();
        clashOfNone();
        clashAtEachMatch();
        clashOfThoseThatCount();
        falseOfNone();
        falseOfAsManyAsCanBe();
        falseAreFewest();
        falseOfLikeOnesTheLeast();
        falseOfThoseThatCount();
        CHECK.end();
    }

    /** "HOW MANY ORDERS (place -1)": of nobody one, of eight 40320, and none. */
    private static void howManyOrders() {
        int[] all = {1, 1, 2, 6, 24, 120, 720, 5040, 40320};
        for (int n = 0; n <= 8; n++) {
            CHECK.due("orders of " + n, Made.with(n).orders(-1), all[n]);
        }
        CHECK.due("eight in a row", Made.with(8, 1, 12, 23, 34, 45, 56, 67).orders(-1), 1);
        CHECK.due("eight in a row but for two", Made.with(8, 1, 12, 23, 34, 45, 56, 57).orders(-1), 2);
        CHECK.due("a ring of eight", Made.with(8, 1, 12, 23, 34, 45, 56, 67, 70).orders(-1), 0);
        CHECK.due("both ways", Made.with(2, 1, 10).orders(-1), 0);
        CHECK.due("twice the same", Made.with(2, 1, 1).orders(-1), 1);
    }

    /** "the PLAYER at a PLACE of the first .. BAD." */
    private static void placeOfTheFirst() {
        for (int n = 0; n <= 8; n++) {
            SecondBest x = Made.with(n);
            for (int place = 0; place < n; place++) {
                CHECK.due("orders(" + place + ") of " + n, x.orders(place), place);
            }
            CHECK.due("one behind the last place of " + n, x.orders(n), -1);
            CHECK.due("orders(-2) of " + n, x.orders(-2), -1);
        }
        SecondBest back = Made.with(8, 10, 21, 32, 43, 54, 65, 76);
        for (int place = 0; place < 8; place++) {
            CHECK.due("backward at " + place, back.orders(place), 7 - place);
        }
        int[] never = {-2, 8, MIN, MAX};
        for (int place : never) {
            UNCHANGED.due(World.values(), "orders(" + place + ")", y -> y.orders(place), -1);
        }
    }

    /** "(NOT: no ORDERS)". */
    private static void firstOrderOfNone() {
        UNCHANGED.due(World.TORN, "orders(0)", y -> y.orders(0), -2);
        UNCHANGED.due(World.TORN, "orders(2)", y -> y.orders(2), -2);
        CHECK.due("how many is no NOT", World.TORN.make().orders(-1), 0);
        SecondBest x = World.TORN.make();
        x.mend(2, 1, 0);
        CHECK.due("an order again", x.orders(0), 0);
    }

    /** BAD is named first, then NOT. */
    private static void badPlaceAheadOfNot() {
        UNCHANGED.due(World.TORN, "orders(3) of three", y -> y.orders(3), -1);
        UNCHANGED.due(World.TORN, "orders(-2)", y -> y.orders(-2), -1);
    }

    /** "1, if the one is better in all ORDERS; 2, if the other one is; 0 else". */
    private static void sureIfInAll() {
        SecondBest x = Made.with(8, 1, 12, 23, 34, 45, 56, 67);
        CHECK.due("the best and the last", x.sure(7), 1);
        CHECK.due("the last and the best", x.sure(70), 2);
        CHECK.due("the last two", x.sure(67), 1);
        CHECK.due("the last two, the other way", x.sure(76), 2);
        x.mend(6, 1, 0);
        CHECK.due("not the last two", x.sure(67), 0);
        CHECK.due("nor the best and 7", x.sure(7), 0);
        CHECK.due("nor 7 and the best", x.sure(70), 0);
        CHECK.due("the best and 6", x.sure(6), 1);
        // 1 is better in all orders but one of three.
        SecondBest three = Made.with(3, 12);
        CHECK.due("in two of three", three.sure(10), 0);
        CHECK.due("in one of three", three.sure(1), 0);
    }

    /** "(no ORDERS: 0)". */
    private static void sureOfNone() {
        for (int ab : new int[] {1, 10, 12, 21, 2, 20}) {
            UNCHANGED.due(World.TORN, "sure(" + ab + ")", y -> y.sure(ab), 0);
        }
        CHECK.due("of one who did not clash", Made.with(4, 1, 10, 23).sure(23), 0);
    }

    /** "BAD (one and the same)", and no such PLAYER. */
    private static void sureOfTwo() {
        for (int ab : NEVER_TWO) {
            UNCHANGED.due(World.values(), "sure(" + ab + ")", y -> y.sure(ab), -1);
        }
        for (int n = 0; n <= 8; n++) {
            SecondBest x = Made.with(n);
            for (int ab = 0; ab < 100; ab++) {
                boolean are = ab / 10 < n && ab % 10 < n && ab / 10 != ab % 10;
                CHECK.due("sure(" + ab + ") of " + n, x.sure(ab), are ? 0 : -1);
            }
        }
    }

    /** "CAN BE: PLACES (bits) that a PLAYER has in some." */
    private static void canBeAllPlaces() {
        CHECK.due("one", Made.with(1).places(0), 1);
        CHECK.due("of eight the first", Made.with(8).places(0), 255);
        CHECK.due("of eight the last", Made.with(8).places(7), 255);
        SecondBest x = Made.with(8, 1, 12, 23, 34, 45, 56, 67);
        CHECK.due("the best", x.places(0), 1);
        CHECK.due("the last", x.places(7), 128);
        SecondBest free = Made.with(8, 70, 71, 72, 73, 74, 75, 76);
        CHECK.due("who beat all", free.places(7), 1);
        CHECK.due("who was beaten once", free.places(0), 254);
    }

    /** CAN BE where there are no ORDERS. */
    private static void canBeNoPlace() {
        for (int p = 0; p < 3; p++) {
            int player = p;
            UNCHANGED.due(World.TORN, "places(" + p + ")", y -> y.places(player), 0);
        }
        CHECK.due("of one who did not play", Made.with(3, 1, 10).places(2), 0);
    }

    /** places: "BAD": no such PLAYER. */
    private static void placesOfAPlayer() {
        for (int n = 0; n <= 8; n++) {
            SecondBest x = Made.with(n);
            CHECK.due("the last of " + n, x.places(n - 1), n == 0 ? -1 : (1 << n) - 1);
            CHECK.due("one behind the last of " + n, x.places(n), -1);
        }
        for (int p : new int[] {-1, 8, MIN, MAX}) {
            UNCHANGED.due(World.values(), "places(" + p + ")", y -> y.places(p), -1);
        }
        UNCHANGED.due(World.TORN, "places(3) of three", y -> y.places(3), -1);
    }

    /** "CLASH. NOT." */
    private static void clashOfNone() {
        World[] whole = {World.EMPTY, World.ONE, World.FOUR, World.FIVE, World.SIX, World.FULL, World.STORED};
        UNCHANGED.due(whole, "clash()", SecondBest::clash, -2);
        UNCHANGED.due(World.TORN, "clash()", SecondBest::clash, 2);
    }

    /** "the first MATCH with which (and those that COUNT ahead of it) there is no ORDER". */
    private static void clashAtEachMatch() {
        for (int at = 1; at < 12; at++) {
            SecondBest x = Made.with(2);
            for (int m = 0; m < 12; m++) {
                x.match(m < at ? 1 : 10);
            }
            CHECK.due("the first to tell otherwise", x.clash(), at);
        }
        CHECK.due("the last of twelve", Made.with(8, 1, 12, 23, 34, 45, 56, 67, 2, 13, 24, 35, 70).clash(), 11);
        CHECK.due("the second", Made.with(2, 1, 10).clash(), 1);
        CHECK.due("the first of two", Made.with(3, 1, 12, 20, 10).clash(), 2);
    }

    /** Of "MATCHES that COUNT" alone. */
    private static void clashOfThoseThatCount() {
        SecondBest x = Made.with(3, 1, 12, 20, 10);
        x.mend(2, 1, 0);
        CHECK.due("the one that does not count is passed", x.clash(), 3);
        x.mend(0, 1, 0);
        CHECK.due("no match of theirs ahead", x.clash(), -2);
        x.mend(2, 1, 1);
        CHECK.due("1 beat 2 beat 0, 1 beat 0", x.clash(), -2);
        x.mend(0, 1, 1);
        CHECK.due("as at first", x.clash(), 2);
        for (int m = 0; m < 4; m++) {
            x.mend(m, 1, 0);
        }
        CHECK.due("none counts", x.clash(), -2);
        CHECK.due("all orders fit", x.orders(-1), 6);
    }

    /** "FALSE, as bits.": none. */
    private static void falseOfNone() {
        World[] whole = {World.EMPTY, World.ONE, World.FOUR, World.FIVE, World.SIX, World.FULL, World.STORED};
        UNCHANGED.due(whole, "wrong()", SecondBest::wrong, 0);
        UNCHANGED.due(World.TORN, "wrong()", SecondBest::wrong, 1);
    }

    /** FALSE: six of twelve, the first and the last of them. */
    private static void falseOfAsManyAsCanBe() {
        CHECK.due("six of twelve", Made.with(2, 1, 1, 1, 1, 1, 1, 10, 10, 10, 10, 10, 10).wrong(), 63);
        CHECK.due("the last alone", Made.with(2, 1, 1, 1, 1, 1, 1, 1, 1, 1, 1, 1, 10).wrong(), 1 << 11);
        CHECK.due("the first alone", Made.with(2, 10, 1, 1, 1, 1, 1, 1, 1, 1, 1, 1, 1).wrong(), 1);
        CHECK.due("five of twelve", Made.with(2, 1, 1, 1, 1, 1, 1, 1, 10, 10, 10, 10, 10).wrong(), 0xf80);
    }

    /** "the fewest of MATCHES that COUNT .. without which there is an ORDER". */
    private static void falseAreFewest() {
        CHECK.due("one of the last rather than two of the first", Made.with(2, 1, 1, 10).wrong(), 4);
        CHECK.due("one that is in both rings", Made.with(4, 12, 20, 13, 30, 1).wrong(), 1 << 4);
        CHECK.due("a ring of eight", Made.with(8, 12, 23, 34, 45, 56, 67, 70, 1).wrong(), 1);
        CHECK.due("of four rings of two one each", Made.with(8, 1, 10, 23, 32, 45, 54, 67, 76).wrong(), 0x55);
    }

    /** "of like ones the least": as bits, so that the greatest match tells. */
    private static void falseOfLikeOnesTheLeast() {
        CHECK.due("of two", Made.with(2, 10, 1).wrong(), 1);
        CHECK.due("of a ring", Made.with(3, 20, 12, 1).wrong(), 1);
        // 0 and 1 or 2 and 3 must go: 1 + 2 is less than 4 + 8.
        CHECK.due("two and two", Made.with(2, 1, 1, 10, 10).wrong(), 3);
        // 0 and 3, or 1 and 2: 2 + 4 is less than 1 + 8.
        CHECK.due("two and two, crossed", Made.with(2, 1, 10, 10, 1).wrong(), 6);
    }

    /** FALSE: "of MATCHES that COUNT". */
    private static void falseOfThoseThatCount() {
        SecondBest x = Made.with(2, 1, 1, 10);
        x.mend(0, 1, 0);
        CHECK.due("one and one", x.wrong(), 2);
        x.mend(1, 1, 0);
        CHECK.due("one alone", x.wrong(), 0);
        x.mend(0, 1, 1);
        CHECK.due("the first and the last", x.wrong(), 1);
        x.mend(2, 1, 0);
        CHECK.due("the first alone", x.wrong(), 0);
    }
}
