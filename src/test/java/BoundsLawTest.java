/** The ends that promises 7, 8 and 20 and the terms of THE LAW name: feed, law, chance. */
public final class BoundsLawTest {
    private static final Check CHECK = new Check();
    private static final Unchanged UNCHANGED = new Unchanged(CHECK);
    private static final int MIN = Integer.MIN_VALUE, MAX = Integer.MAX_VALUE;
    private static final int RIGHT = -1;
    // The least int, two to the 31 having wrapped.
    private static final String LEAST = "8192*8192*32";

    public static void main(String[] args) {
        bytesAre0To255();
        tapeHolds120();
        badByteAheadOfFull();
        tapeIsEmptyBehindLaw();
        noTextIsFaultyAt0();
        faultyTextLeavesTheLaw();
        faultAtEachPlace();
        endsTooEarly();
        oneOrMoreLines();
        oneQuestionMarkInALine();
        oneComparisonInB();
        signsNoneOnceAndOften();
        numbersOf1To4Digits();
        noBlanks();
        fiveNames();
        sixOpenAtOnce();
        openOnesAreShut();
        textOf120Bytes();
        numbersWrap();
        comparedAtTheEnds();
        byZero();
        towardZero();
        signsGive1And0();
        firstLineThatCounts();
        heldWithin0To100();
        leftOf100();
        withoutAText();
        roundIs0To2();
        chanceOfTwo();
        CHECK.end();
    }

    /** "A byte (0 .. 255) comes to THE TAPE: how many it has. BAD". */
    private static void bytesAre0To255() {
        SecondBest x = new SecondBest();
        CHECK.due("feed(0)", x.feed(0), 1);
        CHECK.due("feed(255)", x.feed(255), 2);
        CHECK.due("feed(127)", x.feed(127), 3);
        CHECK.due("feed(128)", x.feed(128), 4);
        int[] beyond = {-1, 256, 256 + 'a', -256 + 'a', MIN, MAX, MIN + 'a'};
        for (int letter : beyond) {
            UNCHANGED.due(World.values(), "feed(" + letter + ")", y -> y.feed(letter), -1);
        }
        CHECK.due("byte 255 is no byte -1: faulty at 1", Made.adopt(new SecondBest(), "a" + (char) 255), -101);
        CHECK.due("byte 225 is no a: faulty at 0", Made.adopt(new SecondBest(), "" + (char) ('a' + 128)), -100);
    }

    /** "BAD, FULL (120)." */
    private static void tapeHolds120() {
        SecondBest x = new SecondBest();
        for (int n = 1; n <= 120; n++) {
            CHECK.due("byte " + n, x.feed('7'), n);
            CHECK.due("on the tape", x.count(3), n);
        }
        CHECK.due("the 121st", x.feed('7'), -3);
        CHECK.due("120 still", x.count(3), 120);
        CHECK.due("too many digits", x.law(), -104);
        CHECK.due("there is room again", x.feed('7'), 1);
        UNCHANGED.due(World.STORED, "feed(0)", y -> y.feed(0), -3);
        UNCHANGED.due(World.STORED, "feed(255)", y -> y.feed(255), -3);
    }

    /** "Answers, of several the one named first": BAD, FULL. */
    private static void badByteAheadOfFull() {
        UNCHANGED.due(World.STORED, "feed(-1) of 121", y -> y.feed(-1), -1);
        UNCHANGED.due(World.STORED, "feed(256) of 121", y -> y.feed(256), -1);
    }

    /** "THE TAPE is empty then." */
    private static void tapeIsEmptyBehindLaw() {
        SecondBest x = Made.with(2);
        CHECK.due("a text", Made.adopt(x, "12"), 1);
        CHECK.due("nothing on the tape", x.count(3), 0);
        CHECK.due("a faulty one", Made.adopt(x, "12+"), -103);
        CHECK.due("nothing on the tape", x.count(3), 0);
        CHECK.due("the next byte is the first", x.feed('3'), 1);
        CHECK.due("law()", x.law(), 1);
        CHECK.due("by that byte alone", x.chance(1, 0), 3);
    }

    /** "-100 less its FAULT"; "the length, if it ends too early": of no bytes 0. */
    private static void noTextIsFaultyAt0() {
        World[] withoutBytes = {World.EMPTY, World.ONE, World.TORN, World.FIVE, World.SIX, World.FULL};
        UNCHANGED.due(withoutBytes, "law() without a byte", SecondBest::law, -100);
    }

    /** "THE TAPE becomes THE LAW: 1; -100 less its FAULT": what is faulty becomes none. */
    private static void faultyTextLeavesTheLaw() {
        SecondBest x = Made.ofWorths(20, 10);
        CHECK.due("a faulty text ahead of the first law", Made.adopt(x, "7+"), -102);
        CHECK.due("as without a text", x.chance(1, 0), 55);
        CHECK.due("a law", Made.adopt(x, "33"), 1);
        CHECK.due("no text", x.law(), -100);
        CHECK.due("a faulty one", Made.adopt(x, "44;"), -103);
        CHECK.due("the law that was", x.chance(1, 0), 33);
        CHECK.due("another law", Made.adopt(x, "44"), 1);
        CHECK.due("the law that is", x.chance(1, 0), 44);
    }

    private static void text(String text, int fault) {
        SecondBest x = new SecondBest();
        CHECK.due("law() of " + text, Made.adopt(x, text), fault == RIGHT ? 1 : -100 - fault);
        CHECK.due("the tape behind " + text, x.count(3), 0);
    }

    /** "FAULT: the place (from 0) of the first byte with which no TEXT goes on". */
    private static void faultAtEachPlace() {
        StringBuilder ahead = new StringBuilder();
        for (int place = 0; place < 120; place++) {
            // A byte that is never one, and one that is not due there.
            text(ahead + "$", place);
            text(ahead + (place % 2 == 0 ? ")" : "a"), place);
            if (place < 118) {
                text(ahead + "$$", place);
            }
            ahead.append(place % 2 == 0 ? 'a' : '+');
        }
        text("$a", 0);
        text("a$", 1);
        text("a+$", 2);
    }

    /** "the length, if it ends too early." */
    private static void endsTooEarly() {
        String[] early = {"", "-", "!", "(", "a+", "a-", "a*", "a/", "a%", "a<", "a=", "a>", "a&", "a|", "a?", "a;", "(a", "((a)",
            "a?b;", "a?(b", "1234+", "a;b?"};
        for (String t : early) {
            text(t, t.length());
        }
    }

    /** "LINES, one or more, parted by ;". */
    private static void oneOrMoreLines() {
        text("a", RIGHT);
        text("a;b", RIGHT);
        text("a?b;x?y;r", RIGHT);
        text(";", 0);
        text(";a", 0);
        text("a;;b", 2);
        text("a;", 2);
        text("a?b;", 4);
    }

    /** "LINE: E, or E ? E": no third one, and none within ( ). */
    private static void oneQuestionMarkInALine() {
        text("a?b", RIGHT);
        text("a?b?x", 3);
        text("a?b;x?y", RIGHT);
        text("?b", 0);
        text("a?", 2);
        text("a??b", 2);
        text("(a?b)", 2);
        text("(a;b)", 2);
    }

    /** "B = S, or S < S, S = S, S > S." */
    private static void oneComparisonInB() {
        for (char one : "<=>".toCharArray()) {
            text("a" + one + "b", RIGHT);
            for (char other : "<=>".toCharArray()) {
                text("a" + one + "b" + other + "x", 3);
                text("(a" + one + "b)" + other + "x", RIGHT);
                text("a" + one + "(b" + other + "x)", RIGHT);
                text("a" + one + "b&x" + other + "y", RIGHT);
                text("a" + one + "b|x" + other + "y", RIGHT);
                text("a" + one + "b+x" + other + "y", 5);
                text("a" + one + "b?x" + other + "y", RIGHT);
                text("a" + one + other + "b", 2);
            }
        }
    }

    /** "E = A { | A }. A = B { & B }.", "S = P { + P, - P }. P = O { * O, / O, % O }.": none, one, as many as fit. */
    private static void signsNoneOnceAndOften() {
        for (char sign : "|&+-*/%".toCharArray()) {
            text("a", RIGHT);
            text("a" + sign + "b", RIGHT);
            text("a" + (sign + "b").repeat(59), RIGHT);
            text("a" + (sign + "b").repeat(59) + sign, 120);
            text("a" + (sign + "b").repeat(58) + "b", 117);
            text("" + sign + "b", sign == '-' ? RIGHT : 0);
        }
        value("9" + "-1".repeat(7), 2);
        value("1" + "*2".repeat(6), 64);
        value("64" + "/2".repeat(6), 1);
        value("99%50%20%6", 3);
        value("0" + "|0".repeat(58) + "|5", 1);
        value("1" + "&7".repeat(58) + "&0", 0);
        // From the loosest to the closest: | & < + *.
        value("1|1&0", 1);
        value("1&0<0", 0);
        value("1+1<1+2", 1);
        value("1<2+3*4", 1);
        value("2+3*4-5%3", 12);
        value("0&0|1", 1);
        value("2*3+4<10", 0);
        value("2*3+4<11", 1);
        value("-2*3+10", 4);
        value("!0*5+!5*7", 5);
    }

    /** "a number (1 to 4 digits)". */
    private static void numbersOf1To4Digits() {
        text("0", RIGHT);
        text("9", RIGHT);
        text("0000", RIGHT);
        text("9999", RIGHT);
        text("00000", 4);
        text("99999", 4);
        text("1+23456", 6);
        text("(12345)", 5);
        text("12 34", 2);
        text("1a", 1);
        text("a1", 1);
        value("0007", 7);
        value("9999-9998", 1);
        value("9999=9998+1", 1);
        value("0099", 99);
    }

    /** "No blanks." */
    private static void noBlanks() {
        text(" a", 0);
        text("a ", 1);
        text("a +b", 1);
        text("a+ b", 2);
        text("a;\nb", 2);
        text("a\tb", 1);
    }

    /** "NAMES: a, b the PLAYERS, x, y their WORTHS, r the round (0 the first)." */
    private static void fiveNames() {
        value("a", 2);
        value("b", 4);
        value("x", 30);
        value("y", 60);
        value("r", 1);
        for (int letter = 0; letter < 256; letter++) {
            boolean is = "abxyr0123456789".indexOf(letter) >= 0;
            boolean isOpen = "!-(".indexOf(letter) >= 0;
            text("" + (char) letter, is ? RIGHT : isOpen ? 1 : 0);
        }
        SecondBest x = Made.ofWorths(0, 99);
        CHECK.due("law()", Made.adopt(x, "x*9+r*3+a"), 1);
        CHECK.due("the first player of the least worth in the first round", x.chance(1, 0), 0);
        SecondBest last = Made.ofWorths(0, 0, 0, 0, 0, 0, 99, 98);
        CHECK.due("law()", Made.adopt(last, "x=99&y=98&a=6&b=7&r=2"), 1);
        CHECK.due("the last two in the last round", last.chance(67, 2), 1);
        CHECK.due("asked the other way about", last.chance(76, 2), 99);
    }

    /** "At most 6 of ( ! - ahead of an O are open at once." */
    private static void sixOpenAtOnce() {
        for (char sign : "!-".toCharArray()) {
            String six = String.valueOf(sign).repeat(6);
            text(six + "a", RIGHT);
            text(six + "1", RIGHT);
            text(six + sign + "a", 6);
            text(six + "(a)", 6);
            text("(" + six.substring(1) + "a)", RIGHT);
            text("(" + six + "a)", 6);
            text("a-" + six + "a", RIGHT);
            text("a-" + six + sign + "a", 8);
        }
        text("((((((a))))))", RIGHT);
        text("(((((((a)))))))", 6);
        text("((((((!a))))))", 6);
        text("((((((-a))))))", 6);
        text("!-(!-(a))", RIGHT);
        text("!-(!-(!a))", 6);
        text("a?((((((b))))))", RIGHT);
        text("a?(((((((b", 8);
    }

    /** Of those "open at once" none is one that is shut. */
    private static void openOnesAreShut() {
        text("!!!!!!a+!!!!!!b", RIGHT);
        text("((((((a))))))+((((((b))))))", RIGHT);
        text("(((((!a+!b)))))", RIGHT);
        text("(((((!a+!!b)))))", 9);
        text("((((((a))))))+(((((((b", 20);
        text("((((((a)))+(((b))))))", RIGHT);
        text("((((((a)))+((((b", 14);
        text("!!!(a)-!!!(b)", RIGHT);
        text("!!!(!!a+!!b)", RIGHT);
        text("!!!(!!a+!!!b)", 10);
        text("!!!!!(a)+!!!!!!b", RIGHT);
        text("((((((a))))));((((((b))))))", RIGHT);
    }

    private static String ones(int many) {
        return "1+".repeat(many - 1) + "1";
    }

    /** "a TEXT by THE TAPE (at most 120 bytes)". */
    private static void textOf120Bytes() {
        // 119 bytes, 120, and 121, the last of which does not come.
        value(ones(60), 60);
        value(ones(59) + "+10", 69);
        value(ones(59) + "+100", 69);
        text(ones(60) + "+", 120);
        text(ones(60) + "a", 119);
        // 29 lines that do not count, and one; sixty lines, of which the first counts.
        value("0?1;".repeat(29) + "77", 77);
        value("5;".repeat(59) + "99", 5);
        text("5;".repeat(59) + "9?", 120);
        text("5;".repeat(60), 120);
    }

    /** What chance() answers by a text: players 2 (worth 30) and 4 (worth 60) in round 1. */
    private static void value(String text, int want) {
        SecondBest x = Made.ofWorths(0, 0, 30, 0, 60);
        CHECK.due("law() of " + text, Made.adopt(x, text), 1);
        CHECK.due("chance(24, 1) by " + text, x.chance(24, 1), want);
        CHECK.due("chance(42, 1) by " + text, x.chance(42, 1), 100 - want);
    }

    /** "Ints that wrap". */
    private static void numbersWrap() {
        value(LEAST + "<0", 1);
        value(LEAST + "-1>0", 1);
        value(LEAST + "-1+1<0", 1);
        value(LEAST + "-1+1=" + LEAST, 1);
        value("-" + LEAST + "<0", 1);
        value("-(" + LEAST + ")<0", 1);
        value("-(" + LEAST + ")=" + LEAST, 1);
        value("0-(" + LEAST + ")<0", 1);
        value(LEAST + "*2", 0);
        value("8192*8192*64", 0);
        value("8192*8192*64+9", 9);
        value("(" + LEAST + "-1)*2+50", 48);
        value("9999*9999*9999*9999-6497*9999+99", heldByHand());
        value("!(8192*8192*64)", 1);
        value("8192*8192*64?5;6", 6);
    }

    private static int heldByHand() {
        int v = 9999 * 9999 * 9999 * 9999 - 6497 * 9999 + 99;
        return v < 0 ? 0 : v > 100 ? 100 : v;
    }

    /** "< = > .. give 1, 0" at the ends of ints too. */
    private static void comparedAtTheEnds() {
        value(LEAST + "<1", 1);
        value("1>" + LEAST, 1);
        value(LEAST + ">1", 0);
        value("1<" + LEAST, 0);
        value(LEAST + "<" + LEAST + "-1", 1);
        value(LEAST + "-1>" + LEAST, 1);
        value(LEAST + "=" + LEAST + "-1", 0);
        value("x<30", 0);
        value("x<31", 1);
        value("x>30", 0);
        value("x>29", 1);
        value("x=30", 1);
        value("x=29|x=31", 0);
    }

    /** "/ and % .. by 0 they give 0". */
    private static void byZero() {
        value("7/0", 0);
        value("7%0", 0);
        value("0/0", 0);
        value("0%0", 0);
        value("7/0+5", 5);
        value("7%(a-2)+5", 5);
        value("7/(r-1)*9+5", 5);
        value(LEAST + "/0", 0);
        value(LEAST + "%0", 0);
        value("7/1", 7);
        value("7/-1+9", 2);
        value(LEAST + "/-1<0", 1);
        value(LEAST + "%-1+5", 5);
    }

    /** "/ and % toward 0". */
    private static void towardZero() {
        value("7/2", 3);
        value("-7/2+50", 47);
        value("7/-2+50", 47);
        value("-7/-2+50", 53);
        value("-1/2+50", 50);
        value("7%2+50", 51);
        value("-7%2+50", 49);
        value("7%-2+50", 51);
        value("-7%-2+50", 49);
    }

    /** "| & < = > ! give 1, 0". */
    private static void signsGive1And0() {
        value("5|0", 1);
        value("0|-5", 1);
        value("0|0", 0);
        value("5&-7", 1);
        value("5&0", 0);
        value("0&5", 0);
        value("4&3", 1);
        value("!0", 1);
        value("!1", 0);
        value("!-1", 0);
        value("!!9", 1);
        value("!5+!0", 1);
        value("5|7/0", 1);
        value("0&7/0", 0);
    }

    /** "The first LINE without a first E, or whose first E is not 0, counts; none: 0." */
    private static void firstLineThatCounts() {
        value("9", 9);
        value("9;8", 9);
        value("0?9;8", 8);
        value("1?9;8", 9);
        value("-1?9;8", 9);
        value("0?9", 0);
        value("0?9;0?8", 0);
        value("0?9;0?8;7", 7);
        value("0?9;2?8;7", 8);
        value("0;8", 0);
        value("0?9;0;8", 0);
        value("1?0;8", 0);
    }

    /** "by how many hundredths PLAYER a beats b (held within 0 .. 100)". */
    private static void heldWithin0To100() {
        value("0", 0);
        value("-1", 0);
        value("1", 1);
        value("99", 99);
        value("100", 100);
        value("101", 100);
        value("9999", 100);
        value(LEAST, 0);
        value(LEAST + "-1", 100);
    }

    /** "asked with a the lesser number alone, for the other one what is left of 100." */
    private static void leftOf100() {
        SecondBest x = Made.ofWorths(5, 5, 5, 5, 5, 5, 5, 5);
        CHECK.due("law()", Made.adopt(x, "a*10+b"), 1);
        for (int a = 0; a < 8; a++) {
            for (int b = a + 1; b < 8; b++) {
                CHECK.due("chance of " + a + ", " + b, x.chance(10 * a + b, 0), 10 * a + b);
                CHECK.due("chance of " + b + ", " + a, x.chance(10 * b + a, 0), 100 - 10 * a - b);
            }
        }
        value("200", 100);
        value("-200", 0);
    }

    /** "Without a text 50 and x less y, by 2 (cut)." */
    private static void withoutAText() {
        for (int x = 0; x < 100; x++) {
            for (int y = 0; y < 100; y += x % 9 == 0 ? 1 : 33) {
                SecondBest two = Made.ofWorths(x, y);
                // Cut is what is left without the half of an odd number.
                int half = (Math.abs(x - y) - Math.abs(x - y) % 2) / 2;
                int want = x > y ? 50 + half : 50 - half;
                CHECK.due("chance of worths " + x + ", " + y, two.chance(1, 0), want);
                CHECK.due("chance of the other", two.chance(10, 0), 100 - want);
            }
        }
        CHECK.due("at the least", Made.ofWorths(0, 99).chance(1, 2), 1);
        CHECK.due("at the most", Made.ofWorths(99, 0).chance(1, 2), 99);
        CHECK.due("one more", Made.ofWorths(51, 50).chance(1, 0), 50);
        CHECK.due("one less", Made.ofWorths(50, 51).chance(1, 0), 50);
        CHECK.due("two less", Made.ofWorths(50, 52).chance(1, 0), 49);
    }

    /** "in round r (0 .. 2)"; "r the round (0 the first)". */
    private static void roundIs0To2() {
        SecondBest x = Made.with(2);
        CHECK.due("law()", Made.adopt(x, "r*9+1"), 1);
        CHECK.due("chance(1, 0)", x.chance(1, 0), 1);
        CHECK.due("chance(1, 1)", x.chance(1, 1), 10);
        CHECK.due("chance(1, 2)", x.chance(1, 2), 19);
        int[] beyond = {-1, 3, MIN, MAX};
        for (int r : beyond) {
            UNCHANGED.due(World.values(), "chance(1, " + r + ")", y -> y.chance(1, r), -1);
        }
    }

    /** chance: "BAD (one and the same)", and no such PLAYER. */
    private static void chanceOfTwo() {
        int[] never = {0, 11, 77, 8, 80, 78, 87, 100, 110, 801, -1, -10, -12, MIN, MAX};
        for (int ab : never) {
            UNCHANGED.due(World.values(), "chance(" + ab + ", 0)", y -> y.chance(ab, 0), -1);
        }
        for (int n = 0; n <= 8; n++) {
            SecondBest x = Made.with(n);
            for (int ab = 0; ab < 100; ab++) {
                boolean are = ab / 10 < n && ab % 10 < n && ab / 10 != ab % 10;
                CHECK.due("chance(" + ab + ", 0) of " + n + " is BAD", x.chance(ab, 0) == -1 ? 1 : 0, are ? 0 : 1);
            }
        }
    }
}
