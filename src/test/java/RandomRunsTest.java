import java.util.Random;

/** All promises: random runs of calls, each answer against the model's. */
public final class RandomRunsTest {
    private static final Check CHECK = new Check();
    private static final int RUNS = 1500;
    // So many calls are promised; a text with what is asked behind it takes most of them, and the last counts nine.
    private static final int PROMISED = 512;
    private static final int DEAREST = 127 + 9;
    // How many of 20 calls are of each area: building, orders, questions, cups, leagues, acts and shelves.
    private static final int[][] FLAVOURS = {{6, 3, 3, 3, 2, 3}, {5, 8, 7, 0, 0, 0}, {3, 0, 0, 17, 0, 0},
        {6, 0, 0, 0, 8, 6}, {2, 0, 0, 0, 0, 18}, {20, 0, 0, 0, 0, 0}};
    private static final String SIGNS = "abxyr0123456789!-(()))+*/%|&<=>?;;";
    private static final int[] ODD = {-1, -2, -13, 8, 9, 12, 50, 60, 61, 99, 100, 512, Integer.MIN_VALUE, Integer.MAX_VALUE};

    private final Random random;
    private final SecondBest x = new SecondBest();
    private final Model m = new Model();
    private final int run;
    private final int mostPlayers;
    private final int flavour;
    // Most results go by a true order, so that there are orders that fit.
    private final int[] rank = new int[10];
    private final StringBuilder log = new StringBuilder();
    private int made;

    private RandomRunsTest(int run) {
        this.run = run;
        random = new Random(run * 7919L + 17);
        flavour = run / 5 % FLAVOURS.length;
        mostPlayers = run % 5 == 0 ? 8 : run % 5 == 1 ? 5 : run % 5 == 2 ? 4 : 1 + random.nextInt(7);
        for (int p = 0; p < 10; p++) {
            rank[p] = random.nextInt(100);
        }
    }

    public static void main(String[] args) {
        for (int run = 0; run < RUNS; run++) {
            new RandomRunsTest(run).go();
        }
        CHECK.end();
    }

    private void go() {
        int calls = 100 + random.nextInt(200);
        if (flavour != 0) {
            setUp();
        }
        for (int c = 0; c < calls && made <= PROMISED - DEAREST; c++) {
            int area = 0;
            int left = random.nextInt(20);
            while (left >= FLAVOURS[flavour][area]) {
                left -= FLAVOURS[flavour][area];
                area++;
            }
            switch (area) {
                case 0: building(); break;
                case 1: orders(); break;
                case 2: questions(); break;
                case 3: cups(); break;
                case 4: leagues(); break;
                default: actsAndShelves();
            }
        }
        for (int what = -1; what <= 7; what++) {
            due("count(" + what + ")", x.count(what), m.count(what));
        }
    }

    private void setUp() {
        for (int p = 0; p < mostPlayers; p++) {
            int worth = random.nextInt(4) == 0 ? 50 : random.nextInt(100);
            due("player(" + worth + ")", x.player(worth), m.player(worth));
        }
        for (int shelf = 0; flavour == 4 && shelf < 5; shelf++) {
            due("row", x.row(shelf, shelf / 2, 14 + shelf), m.row(shelf, shelf / 2, 14 + shelf));
        }
        if (flavour == 2) {
            fillCup(mostPlayers == 8 && random.nextInt(4) != 0 ? 8 : 4);
        }
    }

    private void fillCup(int size) {
        due("cup(-1)", x.cup(-1), m.cup(-1));
        int first = random.nextInt(8);
        for (int i = 0; i < 16 && m.count(2) < size; i++) {
            int p = (first + i * (size == 8 ? 3 : 1)) % 8;
            due("cup(" + p + ")", x.cup(p), m.cup(p));
        }
    }

    private void due(String call, long got, long want) {
        made++;
        log.append(' ').append(call);
        if (got != want) {
            System.out.println("run " + run + ":" + log);
        }
        CHECK.due("run " + run + ": " + call, got, want);
    }

    /** Mostly a number below n, at times one that is odd. */
    private int upTo(int n) {
        return random.nextInt(25) == 0 ? ODD[random.nextInt(ODD.length)] : random.nextInt(Math.max(1, n));
    }

    private int somePlayer() {
        return upTo(m.count(0) + (random.nextInt(20) == 0 ? 1 : 0));
    }

    private int pair() {
        if (random.nextInt(25) == 0) {
            return random.nextInt(130) - 10;
        }
        return 10 * random.nextInt(Math.max(1, m.count(0))) + random.nextInt(Math.max(1, m.count(0)));
    }

    private int question() {
        return random.nextInt(20) == 0 ? random.nextInt(90) - 10
            : 10 * random.nextInt(7) + (random.nextBoolean() ? 0 : random.nextInt(Math.max(1, m.count(0) + 1)));
    }

    private void building() {
        int which = random.nextInt(12);
        if (which < 3 && (m.count(0) < mostPlayers || random.nextInt(60) == 0)) {
            int worth = random.nextInt(12) == 0 ? upTo(101) : random.nextInt(4) == 0 ? 50 : random.nextInt(100);
            due("player(" + worth + ")", x.player(worth), m.player(worth));
        } else if (which < 6) {
            int wl = pair();
            if (wl >= 0 && wl < 100 && rank[wl / 10] < rank[wl % 10] && random.nextInt(15) != 0) {
                wl = wl % 10 * 10 + wl / 10;
            }
            due("match(" + wl + ")", x.match(wl), m.match(wl));
        } else if (which < 8) {
            int number = upTo(m.count(1) + 1);
            int v = random.nextInt(15) == 0 ? 2 : random.nextInt(3) == 0 ? 1 : 0;
            due("mend(" + number + ", 1, " + v + ")", x.mend(number, 1, v), m.mend(number, 1, v));
        } else if (which == 8) {
            int number = somePlayer();
            int what = random.nextInt(10) == 0 ? upTo(3) : 0;
            int v = upTo(101);
            due("mend(" + number + ", " + what + ", " + v + ")", x.mend(number, what, v), m.mend(number, what, v));
        } else if (which == 9) {
            int number = upTo(9);
            int what = random.nextBoolean() ? upTo(5) : 9 + random.nextInt(5);
            due("of(" + number + ", " + what + ")", x.of(number, what), m.of(number, what));
        } else if (which == 10) {
            due("undo()", x.undo(), m.undo());
        } else {
            due("redo()", x.redo(), m.redo());
        }
    }

    private void orders() {
        int which = random.nextInt(6);
        if (which == 0) {
            int place = random.nextBoolean() ? -1 : upTo(m.count(0) + 1);
            due("orders(" + place + ")", x.orders(place), m.orders(place));
        } else if (which == 1) {
            int ab = pair();
            due("sure(" + ab + ")", x.sure(ab), m.sure(ab));
        } else if (which == 2) {
            int p = somePlayer();
            due("places(" + p + ")", x.places(p), m.places(p));
        } else if (which == 3) {
            due("clash()", x.clash(), m.clash());
        } else if (which == 4) {
            due("wrong()", x.wrong(), m.wrong());
        } else {
            int ab = pair();
            due("longest(" + ab + ")", x.longest(ab), m.longest(ab));
        }
    }

    private void questions() {
        int qk = question();
        int what = upTo(3);
        int two = random.nextInt(20) == 0 ? what : random.nextInt(2);
        int which = random.nextInt(8);
        if (which < 3) {
            due("ask(" + qk + ", " + what + ")", x.ask(qk, what), m.ask(qk, what));
        } else if (which == 3) {
            due("proof(" + qk + ")", x.proof(qk), m.proof(qk));
        } else if (which == 4) {
            due("worst(" + qk + ")", x.worst(qk), m.worst(qk));
        } else if (which < 7) {
            due("mean(" + qk + ", " + two + ")", x.mean(qk, two), m.mean(qk, two));
        } else {
            due("next(" + qk + ", " + two + ")", x.next(qk, two), m.next(qk, two));
        }
    }

    private void cups() {
        int p = somePlayer();
        int which = random.nextInt(16);
        if (which == 0) {
            fillCup(random.nextBoolean() ? 8 : 4);
        } else if (which == 1 && random.nextInt(4) == 0) {
            due("cup(" + p + ")", x.cup(p), m.cup(p));
        } else if (which < 8) {
            int what = upTo(3);
            int part = upTo(2);
            due("likely(" + p + ", " + what + ", " + part + ")", x.likely(p, what, part), m.likely(p, what, part));
        } else if (which == 8) {
            due("friend(" + p + ")", x.friend(p), m.friend(p));
        } else if (which == 9) {
            int seed = random.nextInt();
            int n = upTo(52);
            due("lots(" + seed + ", " + n + ", " + p + ")", x.lots(seed, n, p), m.lots(seed, n, p));
        } else if (which == 10) {
            int what = upTo(3);
            due("champion(" + what + ")", x.champion(what), m.champion(what));
        } else if (which < 13) {
            int ab = pair();
            int r = upTo(4);
            due("chance(" + ab + ", " + r + ")", x.chance(ab, r), m.chance(ab, r));
        } else if (which == 13) {
            int letter = random.nextInt(20) == 0 ? upTo(300) : SIGNS.charAt(random.nextInt(SIGNS.length()));
            due("feed(" + letter + ")", x.feed(letter), m.feed(letter));
        } else if (random.nextInt(3) == 0) {
            text();
        }
    }

    private void text() {
        String t = LawTexts.some(random);
        log.append(" [").append(t).append(']');
        for (int i = 0; i < t.length(); i++) {
            made++;
            CHECK.due("run " + run + ": feed", x.feed(t.charAt(i)), m.feed(t.charAt(i)));
        }
        due("law()", x.law(), m.law());
        int ab = pair();
        due("chance(" + ab + ", 1)", x.chance(ab, 1), m.chance(ab, 1));
    }

    private void leagues() {
        if (random.nextBoolean()) {
            int place = upTo(m.count(0) + 1);
            int what = upTo(4);
            place = what == 2 && random.nextInt(4) != 0 ? 0 : place;
            due("table(" + place + ", " + what + ")", x.table(place, what), m.table(place, what));
        } else {
            int tables = upTo(6);
            int match = random.nextBoolean() ? -1 : upTo(m.count(1) + 1);
            due("days(" + tables + ", " + match + ")", x.days(tables, match), m.days(tables, match));
        }
    }

    private void actsAndShelves() {
        int which = random.nextInt(14);
        int shelf = upTo(random.nextInt(20) == 0 ? 7 : 6);
        if (which < 2 && random.nextInt(3) != 0) {
            which += 7;
        }
        int i = upTo(random.nextInt(4) == 0 ? 62 : 14);
        if (which < 2) {
            int kind = upTo(9);
            due("body(" + kind + ")", x.body(kind), m.body(kind));
        } else if (which < 4) {
            int b = upTo(m.count(5) + 1);
            int act = upTo(4);
            int v = random.nextInt(3) == 0 ? random.nextInt() : random.nextInt(20) - 10;
            due("act(" + b + ", " + act + ", " + v + ")", x.act(b, act, v), m.act(b, act, v));
            due("count(6)", x.count(6), m.count(6));
            for (int t = -1; t <= m.count(6); t++) {
                due("trace(" + t + ")", x.trace(t), m.trace(t));
            }
        } else if (which == 4) {
            int b = upTo(m.count(5) + 2) - 1;
            due("keep(" + shelf + ", " + b + ")", x.keep(shelf, b), m.keep(shelf, b));
        } else if (which < 7) {
            int sort = random.nextBoolean() ? 0 : upTo(6);
            int n = random.nextInt(12) == 0 ? upTo(62) : upTo(20);
            due("row(" + shelf + ", " + sort + ", " + n + ")", x.row(shelf, sort, n), m.row(shelf, sort, n));
        } else if (which < 9) {
            long v = random.nextInt(4) == 0 ? random.nextLong() : random.nextInt(9) - 1;
            due("put(" + shelf + ", " + i + ", " + v + ")", x.put(shelf, i, v), m.put(shelf, i, v));
        } else if (which == 9) {
            due("element(" + shelf + ", " + i + ")", x.element(shelf, i), m.element(shelf, i));
        } else if (which == 10) {
            int other = random.nextInt(3) == 0 ? shelf : upTo(6);
            int j = upTo(14);
            int n = upTo(8);
            due("shift(" + shelf + ", " + i + ", " + other + ", " + j + ", " + n + ")",
                x.shift(shelf, i, other, j, n), m.shift(shelf, i, other, j, n));
            for (int e = 0; e < 20; e++) {
                due("element(" + other + ", " + e + ")", x.element(other, e), m.element(other, e));
            }
        } else if (which == 11) {
            int k = upTo(9);
            due("taken(" + shelf + ", " + k + ")", x.taken(shelf, k), m.taken(shelf, k));
        } else {
            rowOfMatches(shelf, i);
        }
    }

    private void rowOfMatches(int shelf, int i) {
        int put = random.nextInt(8);
        for (int e = 0; e < put; e++) {
            long v = random.nextInt(Math.max(1, m.count(0)));
            due("put(" + shelf + ", " + (i + e) + ", " + v + ")", x.put(shelf, i + e, v), m.put(shelf, i + e, v));
        }
        int n = upTo(random.nextInt(5) == 0 ? 14 : 4);
        int from = random.nextInt(20) == 0 ? -1 : i;
        due("matches(" + shelf + ", " + from + ", " + n + ")", x.matches(shelf, from, n), m.matches(shelf, from, n));
        due("count(1)", x.count(1), m.count(1));
    }
}
