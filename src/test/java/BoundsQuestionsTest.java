import java.util.function.IntUnaryOperator;

/** The ends that promises 14 to 19 and their terms name: ask, proof, worst, mean, next, longest. */
public final class BoundsQuestionsTest {
    private static final Check CHECK = new Check();
    private static final Unchanged UNCHANGED = new Unchanged(CHECK);
    private static final int MIN = Integer.MIN_VALUE, MAX = Integer.MAX_VALUE;
    private static final int[] NO_QUESTIONS = {-1, -10, -20, 1, 9, 11, 19, 28, 29, 31, 39, 41, 49, 50, 59, 68, 69, 70, 71, 80, 100,
        MIN, MAX};

    public static void main(String[] args) {
        kindsAre0To6();
        kIs0();
        kIsAPlace();
        kIsFrom1On();
        kIsAPlayer();
        whatIs0To2();
        nobodyIsAsked();
        badAheadOfState();
        answeredWhereThereIsNone();
        answersOfNoneOneAndAll();
        boundOfEachMany();
        questionsOfOne();
        proofOfAtMostFive();
        proofByNothing();
        proofOfWhatIsNotAnswered();
        proofIsFewest();
        worstOfAtMostFour();
        worstOfNoneAndAll();
        meanPartIs0And1();
        meanOfNone();
        meanInLowestTerms();
        nextWhatIs0And1();
        nextOfWhatIsAnswered();
        nextIsTheFirst();
        stateAheadOfNot();
        longestOfTwo();
        longestOfNone();
        longestOfLikeMany();
        CHECK.end();
    }

    /** For each number of players which k make a kind a question. */
    private static void kind(int kind, IntUnaryOperator firstK, IntUnaryOperator behindLastK) {
        for (int n = 1; n <= 8; n++) {
            SecondBest x = Made.with(n);
            for (int k = 0; k < 10; k++) {
                boolean is = k >= firstK.applyAsInt(n) && k < behindLastK.applyAsInt(n);
                int qk = 10 * kind + k;
                String of = "(" + qk + ") of " + n + " is BAD";
                CHECK.due("ask" + of, x.ask(qk, 0) == -1 ? 1 : 0, is ? 0 : 1);
                CHECK.due("proof" + of, x.proof(qk) == -1 ? 1 : 0, is ? 0 : 1);
                CHECK.due("worst" + of, x.worst(qk) == -1 ? 1 : 0, is ? 0 : 1);
                CHECK.due("mean" + of, x.mean(qk, 0) == -1 ? 1 : 0, is ? 0 : 1);
                CHECK.due("next" + of, x.next(qk, 0) == -1 ? 1 : 0, is ? 0 : 1);
            }
        }
    }

    /** "QUESTIONS (kind, k)": kinds 0 to 6; "qk: 10 times the kind, and k". */
    private static void kindsAre0To6() {
        for (int qk : NO_QUESTIONS) {
            UNCHANGED.due(World.values(), "ask(" + qk + ", 0)", y -> y.ask(qk, 0), -1);
            UNCHANGED.due(World.values(), "proof(" + qk + ")", y -> y.proof(qk), -1);
            UNCHANGED.due(World.values(), "worst(" + qk + ")", y -> y.worst(qk), -1);
            UNCHANGED.due(World.values(), "mean(" + qk + ", 0)", y -> y.mean(qk, 0), -1);
            UNCHANGED.due(World.values(), "next(" + qk + ", 0)", y -> y.next(qk, 0), -1);
        }
        kind(7, n -> 0, n -> 0);
        kind(-1, n -> 0, n -> 0);
        CHECK.due("the first kind", Made.with(2).ask(0, 1), 2);
        CHECK.due("the last kind", Made.with(2).ask(61, 1), 2);
    }

    /** "k 0 for 0, 1, 3, 4". */
    private static void kIs0() {
        kind(0, n -> 0, n -> 1);
        kind(1, n -> 0, n -> 1);
        kind(3, n -> 0, n -> 1);
        kind(4, n -> 0, n -> 1);
    }

    /** "2 who has PLACE k"; "PLACES .. that there are". */
    private static void kIsAPlace() {
        kind(2, n -> 0, n -> n);
        SecondBest x = Made.with(8, 1, 12, 23, 34, 45, 56, 67);
        for (int k = 0; k < 8; k++) {
            CHECK.due("who has place " + k + " of a row of eight", x.ask(20 + k, 1), 1);
            CHECK.due("who has place " + k + " of eight", Made.with(8).ask(20 + k, 1), 8);
        }
    }

    /** "5 who have PLACES 0 to k - 1, in whichever order (k 1 ..)". */
    private static void kIsFrom1On() {
        kind(5, n -> 1, n -> n + 1);
        int[] sets = {0, 8, 28, 56, 70, 56, 28, 8, 1};
        for (int k = 1; k <= 8; k++) {
            CHECK.due("who have the first " + k + " of eight", Made.with(8).ask(50 + k, 1), sets[k]);
        }
    }

    /** "6 whether PLAYER k is last"; "PLAYERS that there are". */
    private static void kIsAPlayer() {
        kind(6, n -> 0, n -> n);
        SecondBest x = Made.with(8, 70);
        CHECK.due("7 beat one", x.ask(67, 1), 1);
        CHECK.due("0 may be last", x.ask(60, 1), 2);
        CHECK.due("of one: he is", Made.with(1).ask(60, 1), 1);
    }

    /** ask: "what 0", "1", "2". */
    private static void whatIs0To2() {
        SecondBest x = Made.with(3);
        CHECK.due("what 0", x.ask(0, 0), 0);
        CHECK.due("what 1", x.ask(0, 1), 3);
        CHECK.due("what 2", x.ask(0, 2), 2);
        for (int what : new int[] {-1, 3, MIN, MAX}) {
            UNCHANGED.due(World.values(), "ask(0, " + what + ")", y -> y.ask(0, what), -1);
        }
    }

    /** "STATE: no PLAYERS". */
    private static void nobodyIsAsked() {
        for (int qk : new int[] {0, 10, 30, 40}) {
            for (int what = 0; what < 3; what++) {
                int which = what;
                UNCHANGED.due(World.EMPTY, "ask(" + qk + ", " + what + ")", y -> y.ask(qk, which), -5);
            }
            UNCHANGED.due(World.EMPTY, "proof(" + qk + ")", y -> y.proof(qk), -5);
            UNCHANGED.due(World.EMPTY, "worst(" + qk + ")", y -> y.worst(qk), -5);
            for (int part = 0; part < 2; part++) {
                int which = part;
                UNCHANGED.due(World.EMPTY, "mean(" + qk + ", " + part + ")", y -> y.mean(qk, which), -5);
                UNCHANGED.due(World.EMPTY, "next(" + qk + ", " + part + ")", y -> y.next(qk, which), -5);
            }
        }
    }

    /** BAD is named first, then STATE: of nobody no place, no player is there. */
    private static void badAheadOfState() {
        for (int qk : new int[] {20, 50, 51, 60, 1, 70}) {
            UNCHANGED.due(World.EMPTY, "ask(" + qk + ", 0)", y -> y.ask(qk, 0), -1);
            UNCHANGED.due(World.EMPTY, "proof(" + qk + ")", y -> y.proof(qk), -1);
            UNCHANGED.due(World.EMPTY, "worst(" + qk + ")", y -> y.worst(qk), -1);
            UNCHANGED.due(World.EMPTY, "mean(" + qk + ", 1)", y -> y.mean(qk, 1), -1);
            UNCHANGED.due(World.EMPTY, "next(" + qk + ", 1)", y -> y.next(qk, 1), -1);
        }
        UNCHANGED.due(World.EMPTY, "ask(0, 3)", y -> y.ask(0, 3), -1);
        World[] wrongMany = {World.EMPTY, World.FIVE, World.SIX, World.FULL};
        UNCHANGED.due(wrongMany, "mean(0, 2)", y -> y.mean(0, 2), -1);
        UNCHANGED.due(wrongMany, "mean(0, -1)", y -> y.mean(0, -1), -1);
        UNCHANGED.due(wrongMany, "next(0, 2)", y -> y.next(0, 2), -1);
        UNCHANGED.due(wrongMany, "next(0, -1)", y -> y.next(0, -1), -1);
        UNCHANGED.due(wrongMany, "worst(1)", y -> y.worst(1), -1);
        UNCHANGED.due(wrongMany, "proof(1)", y -> y.proof(1), -1);
        UNCHANGED.due(World.FIVE, "worst(25)", y -> y.worst(25), -1);
        UNCHANGED.due(World.SIX, "proof(26)", y -> y.proof(26), -1);
        UNCHANGED.due(World.SIX, "proof(57)", y -> y.proof(57), -1);
    }

    /** "ANSWERED: in all ORDERS the same (also where there is none)." */
    private static void answeredWhereThereIsNone() {
        for (int qk : new int[] {0, 10, 20, 21, 22, 30, 40, 51, 52, 53, 60, 61, 62}) {
            UNCHANGED.due(World.TORN, "ask(" + qk + ", 0)", y -> y.ask(qk, 0), 1);
            UNCHANGED.due(World.TORN, "ask(" + qk + ", 1)", y -> y.ask(qk, 1), 0);
            UNCHANGED.due(World.TORN, "ask(" + qk + ", 2)", y -> y.ask(qk, 2), 0);
        }
        SecondBest x = Made.with(2);
        CHECK.due("two answers", x.ask(0, 0), 0);
        x.match(1);
        CHECK.due("one answer", x.ask(0, 0), 1);
        x.match(10);
        CHECK.due("no answer", x.ask(0, 0), 1);
    }

    /** "ANSWERS: how many unlike ones to a QUESTION there are among ORDERS." */
    private static void answersOfNoneOneAndAll() {
        SecondBest free = Made.with(8);
        CHECK.due("best of eight", free.ask(0, 1), 8);
        CHECK.due("best and second of eight", free.ask(10, 1), 56);
        CHECK.due("best and last of eight", free.ask(30, 1), 56);
        CHECK.due("all of eight", free.ask(40, 1), 40320);
        CHECK.due("is 7 last", free.ask(67, 1), 2);
        SecondBest row = Made.with(8, 1, 12, 23, 34, 45, 56, 67);
        for (int qk : new int[] {0, 10, 20, 27, 30, 40, 51, 57, 58, 60, 67}) {
            CHECK.due("ask(" + qk + ", 1) of a row", row.ask(qk, 1), 1);
            CHECK.due("ask(" + qk + ", 0) of a row", row.ask(qk, 0), 1);
        }
        SecondBest two = Made.with(2);
        for (int qk : new int[] {0, 10, 20, 21, 30, 40, 51, 60, 61}) {
            CHECK.due("ask(" + qk + ", 1) of two", two.ask(qk, 1), 2);
        }
        CHECK.due("both of two", two.ask(52, 1), 1);
    }

    /** "BOUND: .. 2 multiplied so often is no less (0 for one or none)." */
    private static void boundOfEachMany() {
        int[] ofBest = {0, 0, 1, 2, 2, 3, 3, 3, 3};
        for (int n = 1; n <= 8; n++) {
            CHECK.due("of " + n, Made.with(n).ask(0, 2), ofBest[n]);
        }
        int[] ofAll = {0, 0, 1, 3, 5, 7, 10, 13, 16};
        for (int n = 1; n <= 8; n++) {
            CHECK.due("of all orders of " + n, Made.with(n).ask(40, 2), ofAll[n]);
        }
        CHECK.due("of none", Made.with(2, 1, 10).ask(40, 2), 0);
        SecondBest seventy = Made.with(8);
        CHECK.due("of 70", seventy.ask(54, 2), 7);
        CHECK.due("of 56", seventy.ask(53, 2), 6);
        // Pairs, each above the next one, of whom it is not known who is better: two orders for each pair.
        CHECK.due("of four orders", Made.with(4, 2, 3, 12, 13).ask(40, 2), 2);
        CHECK.due("of sixteen orders", Made.with(8, 2, 3, 12, 13, 24, 25, 34, 35, 46, 47, 56, 57).ask(40, 2), 4);
        CHECK.due("of five orders", Made.with(5, 1, 12, 23).ask(40, 2), 3);
    }

    /** QUESTIONS with one PLAYER alone, who is best, second and last. */
    private static void questionsOfOne() {
        for (int qk : new int[] {0, 10, 20, 30, 40, 51, 60}) {
            UNCHANGED.due(World.ONE, "ask(" + qk + ", 0)", y -> y.ask(qk, 0), 1);
            UNCHANGED.due(World.ONE, "ask(" + qk + ", 1)", y -> y.ask(qk, 1), 1);
            UNCHANGED.due(World.ONE, "ask(" + qk + ", 2)", y -> y.ask(qk, 2), 0);
            UNCHANGED.due(World.ONE, "proof(" + qk + ")", y -> y.proof(qk), 0);
            UNCHANGED.due(World.ONE, "worst(" + qk + ")", y -> y.worst(qk), 0);
            UNCHANGED.due(World.ONE, "mean(" + qk + ", 0)", y -> y.mean(qk, 0), 0);
            UNCHANGED.due(World.ONE, "mean(" + qk + ", 1)", y -> y.mean(qk, 1), 1);
            UNCHANGED.due(World.ONE, "next(" + qk + ", 0)", y -> y.next(qk, 0), -2);
            UNCHANGED.due(World.ONE, "next(" + qk + ", 1)", y -> y.next(qk, 1), -2);
        }
    }

    /** "STATE: no PLAYERS, or more than 5". */
    private static void proofOfAtMostFive() {
        UNCHANGED.due(World.FIVE, "proof(40)", y -> y.proof(40), 15);
        UNCHANGED.due(World.SIX, "proof(40)", y -> y.proof(40), -5);
        UNCHANGED.due(World.FULL, "proof(40)", y -> y.proof(40), -5);
        SecondBest x = World.FIVE.make();
        CHECK.due("the last of five", x.proof(24), 15);
        CHECK.due("a sixth", x.player(1), 5);
        CHECK.due("six", x.proof(40), -5);
        for (int n = 6; n <= 8; n++) {
            for (int qk : new int[] {0, 10, 20, 30, 40, 51, 50 + n, 60}) {
                CHECK.due("proof(" + qk + ") of " + n, Made.with(n).proof(qk), -5);
            }
        }
    }

    /** PROOF where no match is wanted: none of the bits. */
    private static void proofByNothing() {
        CHECK.due("all of the first three", Made.with(3).proof(53), 0);
        CHECK.due("all of the first five", Made.with(5, 1, 12).proof(55), 0);
        CHECK.due("one alone", Made.with(1).proof(40), 0);
    }

    /** "NOT: it is not ANSWERED, or there are no ORDERS." */
    private static void proofOfWhatIsNotAnswered() {
        for (int qk : new int[] {0, 10, 20, 21, 22, 30, 40, 51, 52, 53, 60, 61, 62}) {
            UNCHANGED.due(World.TORN, "proof(" + qk + ")", y -> y.proof(qk), -2);
        }
        UNCHANGED.due(World.FOUR, "proof(40)", y -> y.proof(40), -2);
        UNCHANGED.due(World.FOUR, "proof(0)", y -> y.proof(0), 7);
        CHECK.due("five, not answered", Made.with(5).proof(0), -2);
        CHECK.due("five, four of them in order", Made.with(5, 1, 12, 23).proof(20), -2);
    }

    /** "the fewest MATCHES that COUNT (bits; of like ones the least) by which alone a QUESTION is ANSWERED". */
    private static void proofIsFewest() {
        CHECK.due("twelve, of which four", Made.with(5, 2, 13, 24, 3, 14, 4, 1, 12, 23, 34, 1, 12).proof(40), 0x3c0);
        CHECK.due("of like ones the least", Made.with(2, 1, 1, 1).proof(0), 1);
        SecondBest x = Made.with(2, 1, 1, 1);
        x.mend(0, 1, 0);
        CHECK.due("of those that count", x.proof(0), 2);
        x.mend(1, 1, 0);
        CHECK.due("of those that count", x.proof(0), 4);
        x.mend(2, 1, 0);
        CHECK.due("none counts", x.proof(0), -2);
        CHECK.due("the last of twelve", Made.with(3, 1, 1, 1, 1, 1, 1, 1, 1, 1, 1, 1, 12).proof(40), 1 + (1 << 11));
        // 0 beat 1 beat 2 by the last two, or 0 beat both by the first and the last.
        CHECK.due("who is best, of like many the least", Made.with(3, 2, 12, 1).proof(0), 5);
    }

    /** "for at most 4 PLAYERS (else STATE)"; "STATE: no PLAYERS, or more than 4." */
    private static void worstOfAtMostFour() {
        CHECK.due("four", Made.with(4).worst(40), 5);
        CHECK.due("four", Made.with(4).mean(40, 0), 14);
        CHECK.due("four", Made.with(4).next(40, 1), 1);
        for (int n = 5; n <= 8; n++) {
            for (int qk : new int[] {0, 10, 20 + n - 1, 30, 40, 51, 50 + n, 60 + n - 1}) {
                SecondBest x = Made.with(n);
                CHECK.due("worst(" + qk + ") of " + n, x.worst(qk), -5);
                CHECK.due("mean(" + qk + ", 0) of " + n, x.mean(qk, 0), -5);
                CHECK.due("mean(" + qk + ", 1) of " + n, x.mean(qk, 1), -5);
                CHECK.due("next(" + qk + ", 0) of " + n, x.next(qk, 0), -5);
                CHECK.due("next(" + qk + ", 1) of " + n, x.next(qk, 1), -5);
            }
        }
        World[] more = {World.FIVE, World.SIX, World.FULL};
        UNCHANGED.due(more, "worst(0)", y -> y.worst(0), -5);
        UNCHANGED.due(more, "mean(0, 0)", y -> y.mean(0, 0), -5);
        UNCHANGED.due(more, "next(0, 0)", y -> y.next(0, 0), -5);
        SecondBest x = Made.with(4);
        CHECK.due("four", x.worst(0), 3);
        x.player(1);
        CHECK.due("a fifth", x.worst(0), -5);
    }

    /** WORST: 0 where it is ANSWERED, also by no ORDERS. */
    private static void worstOfNoneAndAll() {
        for (int qk : new int[] {0, 10, 20, 21, 22, 30, 40, 51, 52, 53, 60, 61, 62}) {
            UNCHANGED.due(World.TORN, "worst(" + qk + ")", y -> y.worst(qk), 0);
        }
        SecondBest x = Made.with(4, 1, 12);
        CHECK.due("one more of two", x.worst(40), 2);
        x.match(13);
        CHECK.due("the last two", x.worst(40), 1);
        x.match(23);
        CHECK.due("all known", x.worst(40), 0);
        x.match(30);
        CHECK.due("no orders", x.worst(40), 0);
        CHECK.due("the question of all", Made.with(4).worst(54), 0);
    }

    /** "part 0 above, 1 below the line. BAD". */
    private static void meanPartIs0And1() {
        SecondBest x = Made.with(3);
        CHECK.due("above", x.mean(40, 0), 8);
        CHECK.due("below", x.mean(40, 1), 3);
        for (int part : new int[] {-1, 2, MIN, MAX}) {
            UNCHANGED.due(World.values(), "mean(0, " + part + ")", y -> y.mean(0, part), -1);
        }
    }

    /** "(no ORDERS: 0 by 1)". */
    private static void meanOfNone() {
        for (int qk : new int[] {0, 10, 22, 30, 40, 53, 62}) {
            UNCHANGED.due(World.TORN, "mean(" + qk + ", 0)", y -> y.mean(qk, 0), 0);
            UNCHANGED.due(World.TORN, "mean(" + qk + ", 1)", y -> y.mean(qk, 1), 1);
        }
    }

    /** "in lowest terms": 0 by 1 where it is answered, and whole numbers by 1. */
    private static void meanInLowestTerms() {
        SecondBest known = Made.with(4, 1, 2, 3);
        CHECK.due("answered in six orders", known.mean(0, 0), 0);
        CHECK.due("by one", known.mean(0, 1), 1);
        CHECK.due("three matches each", Made.with(4).mean(0, 0), 3);
        CHECK.due("by one", Made.with(4).mean(0, 1), 1);
        CHECK.due("112 by 24", Made.with(4).mean(40, 0), 14);
        CHECK.due("112 by 24", Made.with(4).mean(40, 1), 3);
        CHECK.due("two in order: one", Made.with(2).mean(40, 0), 1);
        CHECK.due("by one", Made.with(2).mean(40, 1), 1);
    }

    /** "the lesser (what 0), the other (1). BAD". */
    private static void nextWhatIs0And1() {
        SecondBest x = Made.with(4, 1, 2, 3);
        CHECK.due("the lesser", x.next(40, 0), 1);
        CHECK.due("the other", x.next(40, 1), 2);
        for (int what : new int[] {-1, 2, MIN, MAX}) {
            UNCHANGED.due(World.values(), "next(0, " + what + ")", y -> y.next(0, what), -1);
        }
    }

    /** "(NOT: it is ANSWERED)". */
    private static void nextOfWhatIsAnswered() {
        for (int qk : new int[] {0, 10, 22, 30, 40, 53, 62}) {
            UNCHANGED.due(World.TORN, "next(" + qk + ", 0)", y -> y.next(qk, 0), -2);
            UNCHANGED.due(World.TORN, "next(" + qk + ", 1)", y -> y.next(qk, 1), -2);
        }
        UNCHANGED.due(World.FOUR, "next(0, 0)", y -> y.next(0, 0), -2);
        UNCHANGED.due(World.FOUR, "next(54, 1)", y -> y.next(54, 1), -2);
        UNCHANGED.due(World.FOUR, "next(40, 0)", y -> y.next(40, 0), 0);
        UNCHANGED.due(World.FOUR, "next(40, 1)", y -> y.next(40, 1), 2);
    }

    /** "the first match (by the lesser, the other) with which WORST is kept". */
    private static void nextIsTheFirst() {
        CHECK.due("the first of all", Made.with(4).next(40, 0), 0);
        CHECK.due("the first of all", Made.with(4).next(40, 1), 1);
        SecondBest last = Made.with(4, 1, 12, 13);
        CHECK.due("the last of all", last.next(40, 0), 2);
        CHECK.due("the last of all", last.next(40, 1), 3);
        // 2 beat 0 and 1: who is best is told by 2 and 3 alone, though 0 and 1, 0 and 3, 1 and 3 have not played.
        SecondBest best = Made.with(4, 20, 21);
        CHECK.due("worst", best.worst(0), 1);
        CHECK.due("the lesser", best.next(0, 0), 2);
        CHECK.due("the other", best.next(0, 1), 3);
    }

    /** STATE is named ahead of NOT. */
    private static void stateAheadOfNot() {
        UNCHANGED.due(World.FIVE, "next(40, 0), which is answered", y -> y.next(40, 0), -5);
        UNCHANGED.due(World.SIX, "proof(40), which is not answered", y -> y.proof(40), -5);
        SecondBest torn = Made.with(6, 1, 10);
        CHECK.due("no orders of six", torn.proof(0), -5);
        CHECK.due("no orders of six", torn.next(0, 0), -5);
        CHECK.due("no orders of six", torn.worst(0), -5);
        CHECK.due("no orders of six", torn.mean(0, 0), -5);
    }

    /** longest: "BAD (one and the same)", and no such PLAYER. */
    private static void longestOfTwo() {
        for (int ab : new int[] {0, 11, 77, 8, 80, 78, 87, 100, 110, 801, -1, -10, -12, MIN, MAX}) {
            UNCHANGED.due(World.values(), "longest(" + ab + ")", y -> y.longest(ab), -1);
        }
        for (int n = 0; n <= 8; n++) {
            SecondBest x = Made.with(n);
            for (int ab = 0; ab < 100; ab++) {
                boolean are = ab / 10 < n && ab % 10 < n && ab / 10 != ab % 10;
                CHECK.due("longest(" + ab + ") of " + n, x.longest(ab), are ? Math.min(ab / 10, ab % 10) : -1);
            }
        }
    }

    /** "NOT: no ORDERS.", and BAD ahead of it. */
    private static void longestOfNone() {
        for (int ab : new int[] {1, 10, 12, 21, 2, 20}) {
            UNCHANGED.due(World.TORN, "longest(" + ab + ")", y -> y.longest(ab), -2);
        }
        UNCHANGED.due(World.TORN, "longest(22)", y -> y.longest(22), -1);
        UNCHANGED.due(World.TORN, "longest(3)", y -> y.longest(3), -1);
    }

    /** "the lesser, if like many are." */
    private static void longestOfLikeMany() {
        SecondBest x = Made.with(4, 1, 23);
        CHECK.due("three and three", x.longest(13), 1);
        CHECK.due("three and three", x.longest(31), 1);
        CHECK.due("five and one", x.longest(3), 0);
        CHECK.due("five and one", x.longest(30), 0);
        CHECK.due("one and five", x.longest(12), 2);
        CHECK.due("one and five", x.longest(21), 2);
        CHECK.due("all and none", x.longest(1), 0);
        CHECK.due("none and all", Made.with(2, 10).longest(1), 1);
        CHECK.due("none and all", Made.with(2, 10).longest(10), 1);
        for (int ab : new int[] {1, 12, 13, 31}) {
            UNCHANGED.due(World.FIVE, "longest(" + ab + ")", y -> y.longest(ab), Math.min(ab / 10, ab % 10));
        }
    }
}
