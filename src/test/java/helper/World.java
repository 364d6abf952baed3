/** Objects that stand at the ends of what the document allows: empty, in between, torn, full. */
enum World {
    /** Nothing has come. */
    EMPTY {
        @Override
        SecondBest make() {
            return new SecondBest();
        }
    },

    /** One player, who is in the cup's row. */
    ONE {
        @Override
        SecondBest make() {
            SecondBest x = Made.with(1);
            x.cup(0);
            return x;
        }
    },

    /** Three players of whom each beat one: no orders. A row of three. */
    TORN {
        @Override
        SecondBest make() {
            SecondBest x = Made.with(3, 1, 12, 20);
            x.cup(2);
            x.cup(0);
            x.cup(1);
            x.row(0, 0, 2);
            x.put(0, 1, 1);
            return x;
        }
    },

    /** Four players, and something of everything. */
    FOUR {
        @Override
        SecondBest make() {
            SecondBest x = Made.ofWorths(50, 70, 40, 90);
            for (int wl : new int[] {31, 10, 12, 2}) {
                x.match(wl);
            }
            x.mend(3, 1, 0);
            x.mend(0, 0, 55);
            x.mend(1, 0, 66);
            x.undo();
            Made.adopt(x, "40+a*5+r");
            x.feed('7');
            x.feed('5');
            for (int p : new int[] {2, 0, 3, 1}) {
                x.cup(p);
            }
            for (int kind = 0; kind < 8; kind++) {
                x.body(kind);
            }
            x.act(7, 3, 5);
            fillShelves(x);
            return x;
        }
    },

    /** Five players in order, all of them in the row. */
    FIVE {
        @Override
        SecondBest make() {
            SecondBest x = Made.with(5, 1, 12, 23, 34);
            for (int p = 0; p < 5; p++) {
                x.cup(p);
            }
            return x;
        }
    },

    /** Six players, of whom nothing is known; five of them in the row. */
    SIX {
        @Override
        SecondBest make() {
            SecondBest x = Made.with(6);
            for (int p = 5; p > 0; p--) {
                x.cup(p);
            }
            return x;
        }
    },

    /** As many players, matches and changes as there can be, a row of eight; three changes are undone. */
    FULL {
        @Override
        SecondBest make() {
            SecondBest x = Made.with(8, 1, 12, 23, 34, 45, 56, 67, 2, 13, 24, 35, 46);
            for (int n = 0; n < 45; n++) {
                if (n % 3 == 2) {
                    x.mend(0, 1, 1 - n % 2);
                } else {
                    x.mend(n % 3, 0, 50 + n);
                }
            }
            x.mend(0, 0, 1);
            for (int n = 0; n < 3; n++) {
                x.undo();
            }
            for (int p = 7; p >= 0; p--) {
                x.cup(p);
            }
            x.row(0, 0, 2);
            x.put(0, 1, 1);
            return x;
        }
    },

    /** As many bytes, bodies and elements as there can be. */
    STORED {
        @Override
        SecondBest make() {
            SecondBest x = Made.with(2, 1);
            for (int n = 0; n < 120; n++) {
                x.feed(n % 2 == 0 ? '7' : '*');
            }
            for (int n = 0; n < 50; n++) {
                x.body(n % 8);
            }
            for (int shelf = 0; shelf < 5; shelf++) {
                x.row(shelf, shelf, 60);
                x.put(shelf, 59, -2 - shelf);
            }
            x.keep(5, 49);
            x.act(49, 0, 3);
            return x;
        }
    };

    abstract SecondBest make();

    /** Nothing, a FINAL, six bytes, three longs, two booleans, a row of no ints. */
    private static void fillShelves(SecondBest x) {
        x.keep(1, 4);
        x.row(2, 0, 6);
        int[] bytes = {0, 1, 2, 3, 1, 0};
        for (int i = 0; i < 6; i++) {
            x.put(2, i, bytes[i]);
        }
        x.row(3, 3, 3);
        x.put(3, 0, Long.MIN_VALUE);
        x.put(3, 2, Long.MAX_VALUE);
        x.row(4, 4, 2);
        x.put(4, 1, 1);
        x.row(5, 2, 0);
    }
}
