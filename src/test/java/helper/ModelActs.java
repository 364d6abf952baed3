import java.util.List;

/** The kinds as real classes: which body runs is left to Java. */
final class ModelActs {
    interface Beats {
        int n();

        void began(int body);

        default int beats(int x) {
            began(1);
            return x + n();
        }
    }

    interface Tells {
        void began(int body);

        int stands(int x);

        int asks(int x);

        default int tells(int x) {
            began(2);
            return stands(x) - asks(1);
        }
    }

    static class Match implements Beats, Tells {
        int number;
        List<Integer> trace;

        public int n() {
            return number;
        }

        public void began(int body) {
            trace.add(body);
        }

        public int stands(int x) {
            began(10);
            return beats(x) * 2;
        }

        public int asks(int x) {
            began(11);
            return x ^ number;
        }
    }

    static class Cup extends Match {
        @Override
        public int beats(int x) {
            began(20);
            return super.beats(x) + 3;
        }
    }

    static class League extends Match {
        @Override
        public int stands(int x) {
            began(30);
            return -super.stands(x);
        }
    }

    static class Table extends League {
        @Override
        public int asks(int x) {
            began(40);
            return super.asks(x) * 3;
        }

        @Override
        public int stands(int x) {
            began(41);
            return super.stands(x + 1);
        }
    }

    static class Final extends Cup {
        @Override
        public int asks(int x) {
            began(50);
            return super.asks(x) - beats(2);
        }
    }

    static class Lot extends Table {
        @Override
        public int tells(int x) {
            began(60);
            return super.tells(x) ^ 5;
        }
    }

    static class Told extends Match {
        @Override
        public int beats(int x) {
            began(70);
            return super.beats(x) * 2;
        }
    }

    static class False extends Final {
        @Override
        public int stands(int x) {
            began(80);
            return super.stands(x) + asks(2);
        }

        @Override
        public int tells(int x) {
            began(81);
            return super.tells(x) - 1;
        }
    }

    static final Class<?>[] KINDS = {Match.class, Cup.class, League.class, Table.class, Final.class, Lot.class,
        Told.class, False.class};

    static Match make(int kind, int number, List<Integer> trace) {
        Match[] one = {new Match(), new Cup(), new League(), new Table(), new Final(), new Lot(), new Told(), new False()};
        one[kind].number = number;
        one[kind].trace = trace;
        return one[kind];
    }

    private ModelActs() {
    }
}
