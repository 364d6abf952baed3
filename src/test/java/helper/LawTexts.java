import java.util.Random;

/** Texts for the law: by the grammar, and some with a byte that is off. */
final class LawTexts {
    private static final String SIGNS = "abxyr0123456789!-()+*/%|&<=>?; z";

    static String some(Random random) {
        StringBuilder t = new StringBuilder();
        int lines = 1 + random.nextInt(3);
        for (int l = 0; l < lines; l++) {
            if (l > 0) {
                t.append(';');
            }
            if (random.nextBoolean()) {
                either(t, random, 0);
                t.append('?');
            }
            either(t, random, 0);
        }
        int off = random.nextInt(4);
        if (off == 0 && t.length() > 0) {
            t.setCharAt(random.nextInt(t.length()), SIGNS.charAt(random.nextInt(SIGNS.length())));
        } else if (off == 1) {
            t.insert(random.nextInt(t.length() + 1), SIGNS.charAt(random.nextInt(SIGNS.length())));
        } else if (random.nextInt(6) == 0) {
            t.setLength(random.nextInt(t.length() + 1));
        }
        if (t.length() > 125) {
            t.setLength(125);
        }
        return t.toString();
    }

    private static boolean goesOn(StringBuilder t, Random random, int one) {
        return t.length() < 90 && random.nextInt(one) == 0;
    }

    private static void either(StringBuilder t, Random random, int open) {
        both(t, random, open);
        while (goesOn(t, random, 6)) {
            t.append('|');
            both(t, random, open);
        }
    }

    private static void both(StringBuilder t, Random random, int open) {
        compared(t, random, open);
        while (goesOn(t, random, 6)) {
            t.append('&');
            compared(t, random, open);
        }
    }

    private static void compared(StringBuilder t, Random random, int open) {
        sum(t, random, open);
        if (goesOn(t, random, 4)) {
            t.append("<=>".charAt(random.nextInt(3)));
            sum(t, random, open);
        }
    }

    private static void sum(StringBuilder t, Random random, int open) {
        product(t, random, open);
        while (goesOn(t, random, 3)) {
            t.append("+-".charAt(random.nextInt(2)));
            product(t, random, open);
        }
    }

    private static void product(StringBuilder t, Random random, int open) {
        one(t, random, open);
        while (goesOn(t, random, 3)) {
            t.append("*/%".charAt(random.nextInt(3)));
            one(t, random, open);
        }
    }

    private static void one(StringBuilder t, Random random, int open) {
        int most = random.nextInt(40) == 0 ? 7 : 6;
        int which = open < most && t.length() < 90 ? random.nextInt(12) : random.nextInt(8);
        if (which < 4) {
            t.append("abxyr".charAt(random.nextInt(5)));
        } else if (which < 8) {
            t.append(random.nextInt(new int[] {3, 10, 100, 10000}[random.nextInt(4)]));
        } else if (which < 10) {
            t.append("!-".charAt(which - 8));
            one(t, random, open + 1);
        } else {
            t.append('(');
            either(t, random, open + 1);
            t.append(')');
        }
    }

    private LawTexts() {
    }
}
