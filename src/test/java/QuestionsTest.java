import java.util.ArrayList;
import java.util.List;

/** Promises 14 to 19: ask, proof, worst, mean, next, longest. */
public final class QuestionsTest {
    private static final Check CHECK = new Check();

    public static void main(String[] args) {
        whatIsAQuestion();
        nobody();
        asked();
        bounds();
        proofs();
        searchedByHand();
        tooMany();
        longest();
        everyStateOfFour();
        CHECK.end();
    }

    private static boolean isQuestion(int players, int qk) {
        int k = qk % 10;
        switch (Math.floorDiv(qk, 10)) {
            case 0: case 1: case 3: case 4: return k == 0;
            case 2: case 6: return k < players;
            case 5: return k >= 1 && k <= players;
            default: return false;
        }
    }

    private static void whatIsAQuestion() {
        for (int players = 1; players <= 8; players++) {
            for (int qk = -30; qk <= 130; qk++) {
                SecondBest x = Made.with(players);
                boolean is = isQuestion(players, qk);
                CHECK.due("ask(" + qk + ", 0) of " + players + " is BAD", x.ask(qk, 0) == -1 ? 1 : 0, is ? 0 : 1);
                CHECK.due("ask(" + qk + ", -1)", x.ask(qk, -1), -1);
                CHECK.due("ask(" + qk + ", 3)", x.ask(qk, 3), -1);
                CHECK.due("mean(" + qk + ", 2)", x.mean(qk, 2), -1);
                CHECK.due("mean(" + qk + ", -1)", x.mean(qk, -1), -1);
                CHECK.due("next(" + qk + ", 2)", x.next(qk, 2), -1);
                CHECK.due("next(" + qk + ", -1)", x.next(qk, -1), -1);
                CHECK.due("worst(" + qk + ") is BAD", x.worst(qk) == -1 ? 1 : 0, is ? 0 : 1);
                CHECK.due("mean(" + qk + ", 0) is BAD", x.mean(qk, 0) == -1 ? 1 : 0, is ? 0 : 1);
                CHECK.due("next(" + qk + ", 1) is BAD", x.next(qk, 1) == -1 ? 1 : 0, is ? 0 : 1);
                CHECK.due("proof(" + qk + ") is BAD", x.proof(qk) == -1 ? 1 : 0, is ? 0 : 1);
            }
            CHECK.due("ask(MIN, 0)", Made.with(players).ask(Integer.MIN_VALUE, 0), -1);
            CHECK.due("ask(MAX, 0)", Made.with(players).ask(Integer.MAX_VALUE, 0), -1);
        }
    }

    private static void nobody() {
        SecondBest x = Made.with(0);
        for (int qk = 0; qk < 70; qk++) {
            int want = qk == 0 || qk == 10 || qk == 30 || qk == 40 ? -5 : -1;
            CHECK.due("ask(" + qk + ", 2), nobody", x.ask(qk, 2), want);
            CHECK.due("proof(" + qk + "), nobody", x.proof(qk), want);
            CHECK.due("worst(" + qk + "), nobody", x.worst(qk), want);
            CHECK.due("mean(" + qk + ", 1), nobody", x.mean(qk, 1), want);
            CHECK.due("next(" + qk + ", 0), nobody", x.next(qk, 0), want);
        }
        CHECK.due("longest(1), nobody", x.longest(1), -1);
    }

    private static void asked() {
        // 3 beat 1 beat 0 and 2; 4 has not played.
        SecondBest x = Made.with(5, 31, 10, 12);
        int[][] want = {{0, 2}, {10, 3}, {20, 2}, {21, 3}, {22, 4}, {23, 3}, {24, 3}, {30, 5}, {40, 10}, {51, 2}, {52, 2},
            {53, 3}, {54, 3}, {55, 1}, {60, 2}, {61, 1}, {62, 2}, {63, 1}, {64, 2}};
        for (int[] w : want) {
            CHECK.due("ask(" + w[0] + ", 1)", x.ask(w[0], 1), w[1]);
            CHECK.due("ask(" + w[0] + ", 0)", x.ask(w[0], 0), w[1] == 1 ? 1 : 0);
        }
        SecondBest none = Made.with(2, 1, 10);
        int[] questions = {0, 10, 20, 21, 30, 40, 51, 52, 60, 61};
        for (int qk : questions) {
            CHECK.due("no orders: ask(" + qk + ", 0)", none.ask(qk, 0), 1);
            CHECK.due("no orders: ask(" + qk + ", 1)", none.ask(qk, 1), 0);
            CHECK.due("no orders: ask(" + qk + ", 2)", none.ask(qk, 2), 0);
            CHECK.due("no orders: proof(" + qk + ")", none.proof(qk), -2);
            CHECK.due("no orders: worst(" + qk + ")", none.worst(qk), 0);
            CHECK.due("no orders: mean(" + qk + ", 0)", none.mean(qk, 0), 0);
            CHECK.due("no orders: mean(" + qk + ", 1)", none.mean(qk, 1), 1);
            CHECK.due("no orders: next(" + qk + ", 0)", none.next(qk, 0), -2);
        }
    }

    private static void bounds() {
        int[] all = {0, 0, 1, 3, 5, 7, 10, 13, 16};
        int[] best = {0, 0, 1, 2, 2, 3, 3, 3, 3};
        for (int n = 1; n <= 8; n++) {
            CHECK.due("bound of all of " + n, Made.with(n).ask(40, 2), all[n]);
            CHECK.due("bound of best of " + n, Made.with(n).ask(0, 2), best[n]);
        }
    }

    private static void proofs() {
        // Matches 1 and 3 tell again what 0 and 2 told; 4 follows from 0 and 2.
        SecondBest x = Made.with(3, 1, 1, 12, 12, 2);
        int[] questions = {0, 10, 20, 21, 22, 30, 40, 51, 52, 53, 60, 61, 62};
        int[] want = {5, 5, 5, 5, 5, 5, 5, 5, 5, 0, 1, 4, 5};
        for (int i = 0; i < want.length; i++) {
            CHECK.due("proof(" + questions[i] + ")", x.proof(questions[i]), want[i]);
        }
        x.mend(0, 1, 0);
        x.mend(2, 1, 0);
        CHECK.due("by what counts", x.proof(40), 2 + 8);
        x.mend(1, 1, 0);
        CHECK.due("not answered", x.proof(0), -2);
        CHECK.due("last is known by 3 and 4", x.proof(22), 8 + 16);
        CHECK.due("one only", Made.with(1).proof(40), 0);
        CHECK.due("six players", Made.with(6).proof(0), -5);
        CHECK.due("six players, BAD", Made.with(6).proof(1), -1);
        CHECK.due("five in order", Made.with(5, 1, 2, 3, 4, 12, 13, 14, 23, 24, 34).proof(40), 1 + 16 + 128 + 512);
        CHECK.due("five, the best", Made.with(5, 1, 2, 3, 4, 12, 13, 14, 23, 24, 34).proof(0), 15);
        // 4 is last, if each of the others beat somebody: 0, 1 and 2 by their first matches.
        CHECK.due("five, the last", Made.with(5, 1, 2, 3, 4, 12, 13, 14, 23, 24, 34).proof(24), 1 + 16 + 128 + 512);
    }

    private static void searchedByHand() {
        // Best and second of n take n - 2 + log2 n matches, the best n - 1, all in order 0, 1, 3, 5.
        int[] order = {0, 0, 1, 3, 5};
        int[] second = {0, 0, 1, 3, 4};
        int[] ends = {0, 0, 1, 3, 4};
        for (int n = 1; n <= 4; n++) {
            CHECK.due("best of " + n, Made.with(n).worst(0), n - 1);
            CHECK.due("best and second of " + n, Made.with(n).worst(10), second[n]);
            CHECK.due("best and last of " + n, Made.with(n).worst(30), ends[n]);
            CHECK.due("all of " + n, Made.with(n).worst(40), order[n]);
        }
        SecondBest x = Made.with(3);
        CHECK.due("three in order: 8 by 3", x.mean(40, 0), 8);
        CHECK.due("three in order: 8 by 3", x.mean(40, 1), 3);
        x.match(12);
        CHECK.due("1 beat 2: worst", x.worst(40), 2);
        CHECK.due("1 beat 2: 5 by 3", x.mean(40, 0), 5);
        CHECK.due("1 beat 2: 5 by 3", x.mean(40, 1), 3);
        CHECK.due("1 beat 2: next", x.next(40, 0), 0);
        CHECK.due("1 beat 2: next", x.next(40, 1), 1);
        CHECK.due("1 beat 2: who is last", x.next(22, 0), 0);
        CHECK.due("1 beat 2: who is last", x.next(22, 1), 2);
        CHECK.due("1 beat 2: is 1 last", x.next(61, 0), -2);
        CHECK.due("1 beat 2: is 0 last, by one match", x.worst(60), 1);
        CHECK.due("1 beat 2: is 0 last", x.next(60, 1), 2);
        x.match(10);
        x.match(20);
        CHECK.due("all in order", x.worst(40), 0);
        CHECK.due("all in order", x.mean(40, 0), 0);
        CHECK.due("all in order", x.mean(40, 1), 1);
        CHECK.due("all in order", x.next(40, 0), -2);
        x.mend(1, 1, 0);
        CHECK.due("1 beat 2 beat 0: nothing is lost", x.worst(40), 0);
        x.mend(0, 1, 0);
        CHECK.due("2 beat 0", x.worst(40), 2);
        CHECK.due("2 beat 0: next", x.next(40, 1), 1);
    }

    private static void tooMany() {
        SecondBest five = Made.with(5);
        CHECK.due("worst of five", five.worst(0), -5);
        CHECK.due("mean of five", five.mean(0, 0), -5);
        CHECK.due("next of five", five.next(0, 0), -5);
        CHECK.due("BAD stands ahead of STATE", five.worst(1), -1);
        CHECK.due("BAD stands ahead of STATE", five.mean(0, 2), -1);
        CHECK.due("BAD stands ahead of STATE", five.next(0, 2), -1);
        SecondBest answered = Made.with(5, 1, 12, 23, 34);
        CHECK.due("STATE stands ahead of NOT", answered.next(0, 0), -5);
        CHECK.due("six, not answered: STATE stands ahead of NOT", Made.with(6).proof(40), -5);
    }

    private static void longest() {
        SecondBest x = Made.with(3, 12);
        CHECK.due("1 beat 2: 0 and 1", x.longest(1), 1);
        CHECK.due("1 beat 2: 1 and 0", x.longest(10), 1);
        CHECK.due("1 beat 2: 0 and 2", x.longest(2), 0);
        CHECK.due("1 beat 2: 1 and 2", x.longest(21), 1);
        CHECK.due("it changes nothing", x.orders(-1), 3);
        SecondBest free = Made.with(8);
        CHECK.due("like many: the lesser", free.longest(75), 5);
        CHECK.due("like many: the lesser", free.longest(57), 5);
        int[] bad = {0, 77, 8, 80, 18, -1, 108, Integer.MIN_VALUE};
        for (int ab : bad) {
            CHECK.due("longest(" + ab + ")", free.longest(ab), -1);
        }
        SecondBest none = Made.with(3, 1, 10);
        CHECK.due("no orders", none.longest(2), -2);
        CHECK.due("BAD stands ahead of NOT", none.longest(22), -1);
    }

    /** All results that four and fewer can have shown, each with every question, against the model. */
    private static void everyStateOfFour() {
        for (int players = 1; players <= 4; players++) {
            List<int[]> pairs = new ArrayList<>();
            for (int a = 0; a < players; a++) {
                for (int b = a + 1; b < players; b++) {
                    pairs.add(new int[] {a, b});
                }
            }
            int states = (int) Math.pow(3, pairs.size());
            for (int state = 0; state < states; state++) {
                oneState(players, pairs, state);
            }
        }
    }

    private static void oneState(int players, List<int[]> pairs, int state) {
        SecondBest x = new SecondBest();
        Model m = new Model();
        for (int p = 0; p < players; p++) {
            x.player(p);
            m.player(p);
        }
        int rest = state;
        for (int[] pair : pairs) {
            int wl = rest % 3 == 1 ? 10 * pair[0] + pair[1] : 10 * pair[1] + pair[0];
            if (rest % 3 != 0) {
                CHECK.due("match(" + wl + ")", x.match(wl), m.match(wl));
            }
            rest /= 3;
        }
        for (int qk = 0; qk < 70; qk++) {
            if (isQuestion(players, qk)) {
                String where = qk + " of " + players + " in state " + state;
                CHECK.due("worst " + where, x.worst(qk), m.worst(qk));
                CHECK.due("mean above " + where, x.mean(qk, 0), m.mean(qk, 0));
                CHECK.due("mean below " + where, x.mean(qk, 1), m.mean(qk, 1));
                CHECK.due("next lesser " + where, x.next(qk, 0), m.next(qk, 0));
                CHECK.due("next other " + where, x.next(qk, 1), m.next(qk, 1));
                CHECK.due("ask " + where, x.ask(qk, 1), m.ask(qk, 1));
                CHECK.due("proof " + where, x.proof(qk), m.proof(qk));
            }
        }
    }
}
