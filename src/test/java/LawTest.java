import java.util.Random;

/** Promises 7, 8, 20: feed, law, chance. */
public final class LawTest {
    private static final Check CHECK = new Check();

    public static void main(String[] args) {
        tape();
        faults();
        values();
        withoutText();
        faultyTextLeavesTheLaw();
        wrongChances();
        manyTexts();
        CHECK.end();
    }

    private static void tape() {
        SecondBest x = new SecondBest();
        int[] bad = {-1, 256, 1000, Integer.MIN_VALUE, Integer.MAX_VALUE};
        for (int letter : bad) {
            CHECK.due("feed(" + letter + ")", x.feed(letter), -1);
        }
        CHECK.due("feed(0)", x.feed(0), 1);
        CHECK.due("feed(255)", x.feed(255), 2);
        CHECK.due("law() of byte 0", x.law(), -100);
        CHECK.due("the tape is empty", x.count(3), 0);
        for (int n = 1; n <= 120; n++) {
            CHECK.due("byte " + n, x.feed(n % 2 == 1 ? 'a' : '+'), n);
        }
        CHECK.due("the 121st", x.feed('a'), -3);
        CHECK.due("BAD stands ahead of FULL", x.feed(256), -1);
        CHECK.due("120 bytes", x.count(3), 120);
        CHECK.due("a text that ends too early", x.law(), -220);
        for (int n = 1; n <= 119; n++) {
            x.feed(n % 2 == 1 ? '1' : '+');
        }
        CHECK.due("sixty ones", x.law(), 1);
        x.player(1);
        x.player(2);
        CHECK.due("chance(1, 0)", x.chance(1, 0), 60);
        x.feed('-');
        for (int n = 1; n <= 119; n++) {
            x.feed(n % 2 == 1 ? '1' : '+');
        }
        CHECK.due("all 120 bytes", x.law(), 1);
        CHECK.due("-1 and 59 ones", x.chance(1, 0), 58);
        for (int n = 1; n <= 120; n++) {
            x.feed(n % 2 == 1 ? 'a' : ';');
        }
        CHECK.due("sixty lines and none behind the last ;", x.law(), -220);
    }

    private static void faults() {
        Object[][] texts = {
            {"", 0}, {"a?", 2}, {"a;", 2}, {"a?b;", 4}, {";", 0}, {"?", 0}, {"a?b?x", 3}, {"12345", 4}, {"1234", -1},
            {"00001", 4}, {"0000", -1}, {"x0", 1}, {"0x", 1}, {"ab", 1}, {"a b", 1}, {" a", 0}, {"c", 0}, {"A", 0},
            {"a<b<x", 3}, {"a=b>x", 3}, {"(a<b)<x", -1}, {"a<(b<x)", -1}, {"a<b&x<y", -1}, {"a<b|x<y", -1},
            {"a<b+x<y", 5}, {"a<b*x=y", 5}, {"(a", 2}, {"(a))", 3}, {"a)", 1}, {"()", 1}, {"(a?b)", 2}, {"(a;b)", 2},
            {"a?(b?x)", 4}, {"!!!---(a", 6}, {"!!!---a", -1}, {"!!!---!a", 6}, {"((((((a))))))", -1},
            {"(((((((a)))))))", 6}, {"((((((a+!b))))))", 8}, {"(((((!a+!b)))))", -1}, {"(((((!!a)))))", 6},
            {"!(!(!(!a)))", 6}, {"!(!(!(a)))", -1}, {"!(!(!(a+(b))))", 8}, {"-----a--a", -1}, {"------a-------a", -1}, {"------a--------a", 14},
            {"!a!b", 2}, {"a!b", 1}, {"a(b)", 1}, {"(a)(b)", 3}, {"(a)1", 3}, {"a+*b", 2}, {"a--b", -1}, {"a+-b", -1},
            {"a++b", 2}, {"a==b", 2}, {"a<=b", 2}, {"a||b", 2}, {"a&&b", 2}, {"a!=b", 1}, {"a%", 2}, {"-", 1}, {"!", 1},
            {"a,b", 1}, {"1;2;3", -1}, {"1?2;3?4;5?6", -1}, {"1?2;;", 4}, {"a|b&x", -1}, {"r*50", -1}, {"R", 0},
            {"1234+56789", 9}, {"a\u0000", 1}, {"a\u00ff", 1}, {"12?34:5", 5},
        };
        for (Object[] t : texts) {
            SecondBest x = new SecondBest();
            int fault = (Integer) t[1];
            CHECK.due("law of " + t[0], Made.adopt(x, (String) t[0]), fault < 0 ? 1 : -100 - fault);
            CHECK.due("the tape behind " + t[0], x.count(3), 0);
        }
    }

    private static void values() {
        // Players 3 (worth 20) and 5 (worth 70) in round 2.
        Object[][] texts = {
            {"a", 3}, {"b", 5}, {"x", 20}, {"y", 70}, {"r", 2}, {"0", 0}, {"100", 100}, {"101", 100}, {"9999", 100},
            {"-1", 0}, {"0-1", 0}, {"a+b*x", 100}, {"(a+b)*2", 16}, {"y-x-a-b", 42}, {"y-(x-a)", 53}, {"y/x", 3},
            {"y%x", 10}, {"(0-y)/x+50", 47}, {"(0-y)%x+50", 40}, {"-y/x+50", 47}, {"y%-x", 10}, {"y/0+7", 7},
            {"y%0+7", 7}, {"y/(a-3)", 0}, {"2*3%4", 2}, {"7/2*2", 6}, {"x<y", 1}, {"x>y", 0}, {"x=y", 0}, {"x=20", 1},
            {"20|0", 1}, {"0|0", 0}, {"20&30", 1}, {"20&0", 0}, {"20|0&0", 1}, {"(20|0)&0", 0}, {"!20", 0}, {"!0", 1},
            {"!!20", 1}, {"--20", 20}, {"!-20", 0}, {"-!0+5", 4}, {"!0+4", 5}, {"!a+4", 4}, {"-a*2+10", 4},
            {"x<y+1=1", -1}, {"x+1<y=1", -1}, {"(x<y)*40", 40}, {"x>y?10;20", 20}, {"x<y?10;20", 10}, {"x>y?10", 0},
            {"0?1;0?2;0?3", 0}, {"0?1;0?2;7?3", 3}, {"0?1;5;7?3", 5}, {"0;5", 0}, {"0?5;0;9", 0}, {"a-3?9;8", 8},
            {"r=2&x<y?33;44", 33}, {"r<2|x>y?33;44", 44}, {"9999*9999*9999*0+6", 6},
            // 9999 * 9999 * 9999 wraps to a negative int; so does twice two to the 30.
            {"9999*9999*9999<0", 1}, {"1024*1024*1024*2<0", 1}, {"1024*1024*1024*4", 0},
            // The least int by -1 is itself, and nothing is left.
            {"1024*1024*1024*2/-1<0", 1}, {"1024*1024*1024*2%-1+5", 5}, {"1024*1024*1024*2-1>0", 1},
        };
        for (Object[] t : texts) {
            SecondBest x = Made.ofWorths(0, 0, 0, 20, 0, 70);
            int want = (Integer) t[1];
            boolean isText = Made.adopt(x, (String) t[0]) == 1;
            CHECK.due(t[0] + " is a text", isText ? 1 : 0, want < 0 ? 0 : 1);
            if (isText) {
                CHECK.due("chance(35, 2) by " + t[0], x.chance(35, 2), want);
                CHECK.due("chance(53, 2) by " + t[0], x.chance(53, 2), 100 - want);
            }
        }
    }

    private static void withoutText() {
        int[][] cases = {{0, 99, 1}, {99, 0, 99}, {50, 50, 50}, {51, 50, 50}, {50, 51, 50}, {53, 50, 51}, {50, 53, 49},
            {0, 1, 50}, {2, 0, 51}};
        for (int[] c : cases) {
            SecondBest x = Made.ofWorths(c[0], c[1]);
            for (int r = 0; r < 3; r++) {
                CHECK.due("chance(1, " + r + ") of " + c[0] + ", " + c[1], x.chance(1, r), c[2]);
                CHECK.due("chance(10, " + r + ") of " + c[0] + ", " + c[1], x.chance(10, r), 100 - c[2]);
            }
        }
    }

    private static void faultyTextLeavesTheLaw() {
        SecondBest x = Made.ofWorths(10, 20);
        CHECK.due("law()", Made.adopt(x, "r*10+b"), 1);
        CHECK.due("chance(1, 2)", x.chance(1, 2), 21);
        CHECK.due("a faulty text", Made.adopt(x, "99+"), -103);
        CHECK.due("no text", x.law(), -100);
        CHECK.due("the law stands", x.chance(1, 2), 21);
        x.feed('7');
        CHECK.due("the tape is no law", x.chance(1, 2), 21);
        CHECK.due("law()", x.law(), 1);
        CHECK.due("another law", x.chance(1, 2), 7);
        CHECK.due("a worth", x.mend(0, 0, 90), 10);
        CHECK.due("law()", Made.adopt(x, "x"), 1);
        CHECK.due("worths are as they are now", x.chance(1, 0), 90);
    }

    private static void wrongChances() {
        SecondBest x = Made.ofWorths(10, 20);
        int[][] bad = {{0, 0}, {11, 0}, {2, 0}, {20, 0}, {-1, 0}, {1, -1}, {1, 3}, {100, 0}, {Integer.MIN_VALUE, 0},
            {1, Integer.MAX_VALUE}};
        for (int[] b : bad) {
            CHECK.due("chance(" + b[0] + ", " + b[1] + ")", x.chance(b[0], b[1]), -1);
        }
    }

    private static void manyTexts() {
        Random random = new Random(5);
        for (int n = 0; n < 20000; n++) {
            String t = LawTexts.some(random);
            SecondBest x = new SecondBest();
            int w = random.nextInt(100);
            int v = random.nextInt(100);
            x.player(w);
            x.player(v);
            String cut = t.length() > 120 ? t.substring(0, 120) : t;
            int fault = ModelLaw.fault(cut);
            CHECK.due("law of " + cut, Made.adopt(x, t), fault < 0 ? 1 : -100 - fault);
            for (int r = 0; r < 3 && fault < 0; r++) {
                int told = ModelLaw.value(cut, 0, 1, w, v, r);
                CHECK.due("chance(1, " + r + ") by " + cut, x.chance(1, r), Math.max(0, Math.min(100, told)));
            }
        }
    }
}
