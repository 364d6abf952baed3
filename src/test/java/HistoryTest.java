import java.util.ArrayList;
import java.util.Arrays;
import java.util.List;

/**
 * "Each promise holds for every run of so many calls, whatever calls came before": what an object answers goes by what
 * it has now. An object that was used otherwise first answers as a new one that was brought straight to the same.
 */
public final class HistoryTest {
    private static final Check CHECK = new Check();
    private static final int[] QUESTIONS_OF_4 = {0, 10, 20, 21, 22, 23, 30, 40, 51, 52, 53, 54, 60, 61, 62, 63};

    public static void main(String[] args) {
        oneQuestionWhilePlayersCome();
        questionsInTurn();
        oneQuestionWhileMatchesComeAndGo();
        proofsInTurn();
        ordersWhileMatchesComeAndGo();
        chancesByWorthsThatAre();
        chancesByTheLawThatIs();
        cupsByTheRowThatIs();
        lotsBeginWithTheSeed();
        championsOfOtherRows();
        tablesAndDaysInTurn();
        rowsOverRows();
        bodiesInTurn();
        changesBehindChanges();
        CHECK.end();
    }

    private static List<String> searched(SecondBest x, int qk) {
        List<String> told = new ArrayList<>();
        told.add("worst(" + qk + ") " + x.worst(qk));
        for (int part = 0; part < 2; part++) {
            told.add("mean(" + qk + ", " + part + ") " + x.mean(qk, part));
            told.add("next(" + qk + ", " + part + ") " + x.next(qk, part));
        }
        return told;
    }

    private static void same(String where, List<String> used, List<String> fresh) {
        for (int i = 0; i < fresh.size(); i++) {
            CHECK.that(where + ": " + used.get(i) + ", due is " + fresh.get(i), used.get(i).equals(fresh.get(i)));
        }
    }

    /** WORST, MEAN, NEXT of a question, asked again with each player that comes. */
    private static void oneQuestionWhilePlayersCome() {
        for (int qk : QUESTIONS_OF_4) {
            SecondBest x = Made.with(0);
            for (int n = 1; n <= 5; n++) {
                x.player(n - 1);
                same(qk + " of " + n, searched(x, qk), searched(Made.with(n), qk));
            }
        }
    }

    /** Each question behind each other one, and then the first once more. */
    private static void questionsInTurn() {
        for (int one : QUESTIONS_OF_4) {
            for (int other : QUESTIONS_OF_4) {
                SecondBest x = Made.with(4, 31);
                List<String> first = searched(x, one);
                same(other + " behind " + one, searched(x, other), searched(Made.with(4, 31), other));
                same(one + " once more", searched(x, one), first);
            }
        }
    }

    private static void oneQuestionWhileMatchesComeAndGo() {
        for (int qk : QUESTIONS_OF_4) {
            SecondBest x = Made.with(4);
            searched(x, qk);
            x.match(1);
            same(qk + " by 01", searched(x, qk), searched(Made.with(4, 1), qk));
            x.match(12);
            same(qk + " by 01 12", searched(x, qk), searched(Made.with(4, 1, 12), qk));
            x.match(20);
            same(qk + " by a ring", searched(x, qk), searched(Made.with(4, 1, 12, 20), qk));
            x.mend(0, 1, 0);
            same(qk + " by 12 20", searched(x, qk), searched(Made.with(4, 12, 20), qk));
            x.mend(2, 1, 0);
            same(qk + " by 12", searched(x, qk), searched(Made.with(4, 12), qk));
            x.undo();
            same(qk + " by 12 20 again", searched(x, qk), searched(Made.with(4, 12, 20), qk));
            x.undo();
            same(qk + " by a ring again", searched(x, qk), searched(Made.with(4, 1, 12, 20), qk));
            x.redo();
            x.redo();
            same(qk + " by 12 once more", searched(x, qk), searched(Made.with(4, 12), qk));
        }
    }

    private static List<String> proved(SecondBest x) {
        List<String> told = new ArrayList<>();
        for (int qk : QUESTIONS_OF_4) {
            told.add("proof(" + qk + ") " + x.proof(qk));
            told.add("ask(" + qk + ", 1) " + x.ask(qk, 1));
            told.add("orders(-1) " + x.orders(-1));
        }
        return told;
    }

    /** A proof is sought among fewer matches; what is asked behind it goes by all of them. */
    private static void proofsInTurn() {
        SecondBest x = Made.with(5);
        proved(x);
        int[] results = {1, 12, 23, 34, 2, 14, 3};
        for (int m = 1; m <= results.length; m++) {
            x.match(results[m - 1]);
            same("proofs by " + m, proved(x), proved(Made.with(5, Arrays.copyOf(results, m))));
        }
    }

    /** All that goes by the matches that count, behind each change of them. */
    private static void ordersWhileMatchesComeAndGo() {
        int[] results = {1, 12, 20, 34, 43, 56, 67, 70, 2, 13, 24, 35};
        for (int gone = 0; gone < 12; gone++) {
            SecondBest fresh = Made.with(8);
            for (int m = 0; m < 12; m++) {
                fresh.match(results[m]);
                if (m == gone) {
                    fresh.mend(m, 1, 0);
                }
            }
            // Two looks at one object, and no more: so it stays below 512 calls.
            SecondBest x = Made.with(8, results);
            x.mend(gone, 1, 0);
            same("without " + gone, Look.FIELD.at(x), Look.FIELD.at(fresh));
            x.undo();
            same("with " + gone + " again", Look.FIELD.at(x), Look.FIELD.at(Made.with(8, results)));
        }
    }

    private static List<String> cupOf(SecondBest x) {
        List<String> told = new ArrayList<>();
        for (int p = 0; p < x.count(0); p++) {
            for (int what = 0; what < 3; what++) {
                told.add("likely(" + p + ", " + what + ", 0) " + x.likely(p, what, 0));
            }
            told.add("friend(" + p + ") " + x.friend(p));
            told.add("lots(9, 50, " + p + ") " + x.lots(9, 50, p));
        }
        told.add("champion(0) " + x.champion(0));
        told.add("champion(1) " + x.champion(1));
        told.add("chance(1, 0) " + x.chance(1, 0));
        told.add("chance(32, 2) " + x.chance(32, 2));
        return told;
    }

    /** "x, y their WORTHS": as they are now. */
    private static void chancesByWorthsThatAre() {
        SecondBest x = Made.seated(Made.ofWorths(10, 20, 30, 40), 0, 1, 2, 3);
        same("at first", cupOf(x), cupOf(Made.seated(Made.ofWorths(10, 20, 30, 40), 0, 1, 2, 3)));
        x.mend(0, 0, 90);
        same("mended", cupOf(x), cupOf(Made.seated(Made.ofWorths(90, 20, 30, 40), 0, 1, 2, 3)));
        x.mend(3, 0, 0);
        same("mended twice", cupOf(x), cupOf(Made.seated(Made.ofWorths(90, 20, 30, 0), 0, 1, 2, 3)));
        x.undo();
        x.undo();
        same("undone", cupOf(x), cupOf(Made.seated(Made.ofWorths(10, 20, 30, 40), 0, 1, 2, 3)));
        x.redo();
        same("done again", cupOf(x), cupOf(Made.seated(Made.ofWorths(90, 20, 30, 40), 0, 1, 2, 3)));
    }

    private static SecondBest lawful(String text) {
        SecondBest x = Made.seated(Made.ofWorths(10, 20, 30, 40), 0, 1, 2, 3);
        CHECK.due("law of " + text, Made.adopt(x, text), 1);
        return x;
    }

    /** "THE TAPE becomes THE LAW": the latest text without a fault, whichever came before and how long it was. */
    private static void chancesByTheLawThatIs() {
        String[] texts = {"70", "a=0?90-r*7;b=3?x+y;30", "1?2;3", "0?2", "(x*y+r)%101", "1" + "+1".repeat(59), "!a*60+15"};
        String[] faulty = {"", "70+", "((((((((", "a?b?x", "9" + "*9".repeat(58) + "**", "12345", "$"};
        SecondBest x = Made.seated(Made.ofWorths(10, 20, 30, 40), 0, 1, 2, 3);
        for (String text : texts) {
            CHECK.due("law of " + text, Made.adopt(x, text), 1);
            same("by " + text, cupOf(x), cupOf(lawful(text)));
        }
        for (String text : texts) {
            for (String fault : faulty) {
                SecondBest y = lawful(text);
                CHECK.that("a fault in " + fault, Made.adopt(y, fault) <= -100);
                same("by " + text + " behind " + fault, cupOf(y), cupOf(lawful(text)));
                CHECK.due("law of 33 behind " + fault, Made.adopt(y, "33"), 1);
                CHECK.due("chance by 33", y.chance(1, 0), 33);
            }
        }
    }

    /** The row of eight, of four, and those in between that are neither. */
    private static void cupsByTheRowThatIs() {
        int[][] rows = {{0, 1, 2, 3, 4, 5, 6, 7}, {3, 2, 1, 0}, {7, 6, 5, 4}, {7, 5, 3, 1, 6, 4, 2, 0}, {4, 0, 5}, {6, 1, 7, 0},
            {}};
        int[] worths = {12, 90, 45, 45, 3, 77, 60, 90};
        SecondBest x = Made.ofWorths(worths);
        for (int[] row : rows) {
            same("a row of " + row.length, cupOf(Made.seated(x, row)), cupOf(Made.seated(Made.ofWorths(worths), row)));
        }
        SecondBest grows = Made.ofWorths(worths);
        for (int many = 1; many <= 8; many++) {
            grows.cup(many - 1);
            SecondBest fresh = Made.seated(Made.ofWorths(worths), Arrays.copyOf(rows[0], many));
            same("grown to " + many, cupOf(grows), cupOf(fresh));
        }
        SecondBest few = Made.seated(Made.ofWorths(10, 20, 30, 40), 0, 1, 2, 3);
        List<String> ahead = cupOf(few);
        few.player(99);
        for (int p = 0; p < 4; p++) {
            CHECK.due("still in the row", few.likely(p, 0, 0) == Long.MIN_VALUE ? 1 : 0, 0);
        }
        CHECK.that("a player who came changes no chances", cupOf(few).containsAll(ahead));
    }

    /** "SEED at first": no number is left of the lots before. */
    private static void lotsBeginWithTheSeed() {
        SecondBest x = Made.seated(Made.ofWorths(10, 20, 30, 40), 2, 0, 3, 1);
        int first = x.lots(5, 50, 3);
        for (int n = 1; n <= 50; n++) {
            x.lots(n * 31, n, n % 4);
            CHECK.due("lots(5, 50, 3) once more", x.lots(5, 50, 3), first);
        }
        int all = 0;
        for (int p = 0; p < 4; p++) {
            all += x.lots(5, 50, p);
        }
        CHECK.due("one wins each cup", all, 50);
    }

    /** "whom of those that were beaten by the CHAMPION": in the cup that is asked for, not in one before. */
    private static void championsOfOtherRows() {
        SecondBest x = Made.ofWorths(50, 60, 70, 80, 10, 20, 30, 99);
        Made.seated(x, 0, 1, 2, 3, 4, 5, 6, 7);
        CHECK.due("champion of eight", x.champion(0), 7);
        CHECK.due("second of eight", x.champion(1), 3);
        Made.seated(x, 7, 4, 5, 6);
        CHECK.due("champion of four", x.champion(0), 7);
        CHECK.due("second of four: 3 is not in it", x.champion(1), 6);
        Made.seated(x, 0, 4, 1, 5);
        CHECK.due("champion of others", x.champion(0), 1);
        CHECK.due("second of others", x.champion(1), 0);
        x.mend(4, 0, 98);
        CHECK.due("champion by worths that are", x.champion(0), 4);
        CHECK.due("second by worths that are", x.champion(1), 1);
        x.undo();
        CHECK.due("champion again", x.champion(0), 1);
    }

    private static void tablesAndDaysInTurn() {
        SecondBest x = Made.with(8, 1, 23, 45, 67, 2, 13, 10, 54);
        for (int t = 1; t <= 4; t++) {
            for (int u = 1; u <= 4; u++) {
                for (int m = -1; m < 8; m++) {
                    SecondBest fresh = Made.with(8, 1, 23, 45, 67, 2, 13, 10, 54);
                    x.days(u, -1);
                    CHECK.due("days(" + t + ", " + m + ") behind days(" + u + ", -1)", x.days(t, m), fresh.days(t, m));
                }
            }
            x = Made.with(8, 1, 23, 45, 67, 2, 13, 10, 54);
        }
        SecondBest y = Made.with(3, 20);
        CHECK.due("2 is best", y.table(0, 0), 2);
        y.match(10);
        y.match(12);
        CHECK.due("1 has two points", y.table(0, 0), 1);
        y.mend(1, 1, 0);
        y.mend(2, 1, 0);
        CHECK.due("2 is best again", y.table(0, 0), 2);
        CHECK.due("one match", y.days(1, -1), 1);
        y.player(0);
        CHECK.due("who came last", y.table(2, 0), 3);
    }

    /** "0 at first (false)": nothing is left of what the shelf held before. */
    private static void rowsOverRows() {
        SecondBest x = new SecondBest();
        x.body(7);
        for (int sort = 0; sort < 5; sort++) {
            for (int other = 0; other < 5; other++) {
                x.row(0, sort, 6);
                for (int i = 0; i < 6; i++) {
                    x.put(0, i, -1);
                }
                x.row(0, sort, 3);
                CHECK.due("a shorter one of " + sort, x.element(0, 2), 0);
                x.keep(0, other % 2 - 1);
                CHECK.due("a row of " + other + " behind one of " + sort, x.row(0, other, 6), 1);
                for (int i = 0; i < 6; i += 5) {
                    CHECK.due("0 at first", x.element(0, i), 0);
                }
            }
            x = new SecondBest();
            x.body(7);
        }
        SecondBest y = Made.with(2);
        y.row(3, 3, 4);
        y.put(3, 1, 1);
        CHECK.due("longs", y.matches(3, 0, 2), -12);
        y.row(3, 0, 4);
        CHECK.due("bytes: 0 and 0", y.matches(3, 0, 2), 0);
        y.put(3, 1, 1);
        CHECK.due("bytes: 0 and 1", y.matches(3, 0, 2), 1);
        CHECK.due("once more", y.matches(3, 0, 1), 1);
        CHECK.due("two came", y.count(1), 2);
    }

    /** "n its number", "its own KIND": of the body that acts now. */
    private static void bodiesInTurn() {
        SecondBest x = new SecondBest();
        for (int n = 0; n < 16; n++) {
            x.body(n % 8);
        }
        for (int n = 0; n < 16; n++) {
            for (int act = 0; act < 4; act++) {
                SecondBest fresh = new SecondBest();
                for (int b = 0; b <= n; b++) {
                    fresh.body(b % 8);
                }
                String call = "act(" + n + ", " + act + ", 77)";
                CHECK.due(call, x.act(n, act, 77), fresh.act(n, act, 77));
                CHECK.due("ran in " + call, x.count(6), fresh.count(6));
                // Two of the trace suffice: so the object stays below 512 calls.
                CHECK.due("began first in " + call, x.trace(0), fresh.trace(0));
                CHECK.due("began last in " + call, x.trace(x.count(6) - 1), fresh.trace(fresh.count(6) - 1));
            }
        }
    }

    /** "DONE AGAIN (as long as no other came behind)", round after round. */
    private static void changesBehindChanges() {
        SecondBest x = Made.ofWorths(0, 50);
        for (int round = 1; round <= 30; round++) {
            CHECK.due("a change", x.mend(0, 0, round), round - 1);
            CHECK.due("another one", x.mend(1, 0, 51), 50);
            CHECK.due("undone", x.undo(), round);
            CHECK.due("one to do again", x.redo(), 0);
            CHECK.due("undone again", x.undo(), round);
            CHECK.due("its worth", x.of(1, 0), 50);
            CHECK.due("of the other", x.of(0, 0), round);
        }
        CHECK.due("thirty", x.count(4), 30);
        CHECK.due("the last one undone", x.redo(), 0);
        CHECK.due("its worth", x.of(1, 0), 51);
        CHECK.due("no more", x.redo(), -5);
    }
}
