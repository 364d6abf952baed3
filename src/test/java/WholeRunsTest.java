import java.lang.reflect.InvocationTargetException;
import java.lang.reflect.Method;
import java.util.ArrayList;
import java.util.List;
import java.util.Random;

/**
 * "An object is used for at most 512 calls after it has been made": runs of just so many, every call of the face mixed
 * with every other one, each answer against the model's. More runs and another first one can be told as arguments.
 */
public final class WholeRunsTest {
    private static final Check CHECK = new Check();
    private static final int CALLS = 512;

    // Each call with what its arguments are, as told by argument().
    private static final String[] FACE = {"player worth", "match pair", "matches shelf place few", "mend number two value",
        "of number thing", "feed letter", "law", "orders standing", "sure pair", "places player", "clash", "wrong",
        "ask question three", "proof question", "worst question", "mean question two", "next question two", "longest pair",
        "chance pair three", "cup newcomer", "likely player three two", "friend player", "lots any fifty player",
        "champion two", "table standing three", "days tables match", "undo", "redo", "body kind", "act body four any",
        "trace step", "keep shelf body", "row shelf sort size", "put shelf place far", "element shelf place",
        "shift shelf place shelf place few", "taken shelf kind", "count seven"};
    private static final int PLAYER = 0, MATCH = 1, FEED = 5, CUP = 19;
    private static final int[] ODD = {-1, -2, -10, -11, 5, 6, 7, 8, 9, 12, 13, 24, 50, 51, 60, 61, 99, 100, 120, 255, 256,
        Integer.MIN_VALUE, Integer.MIN_VALUE + 1, Integer.MAX_VALUE, Integer.MAX_VALUE - 1};

    private static Method[] ofClass;
    private static Method[] ofModel;

    private final Random random;
    private final SecondBest x = new SecondBest();
    private final Model m = new Model();
    private final int run;
    private final int mostPlayers;
    private final int[] liked = new int[8];
    private final StringBuilder log = new StringBuilder();
    private String text = "";

    private WholeRunsTest(int run) {
        this.run = run;
        random = new Random(run * 104729L + 3);
        mostPlayers = run % 4 == 0 ? 8 : run % 4 == 1 ? 4 : 1 + random.nextInt(8);
        for (int i = 0; i < liked.length; i++) {
            liked[i] = random.nextInt(FACE.length);
        }
    }

    public static void main(String[] args) throws ReflectiveOperationException {
        int runs = args.length > 0 ? Integer.parseInt(args[0]) : 400;
        int first = args.length > 1 ? Integer.parseInt(args[1]) : 0;
        findMethods();
        for (int run = first; run < first + runs; run++) {
            new WholeRunsTest(run).go();
        }
        CHECK.end();
    }

    /** Those of the face and those of the model that are named alike: none is left out. */
    private static void findMethods() throws ReflectiveOperationException {
        List<Method> found = new ArrayList<>();
        List<Method> others = new ArrayList<>();
        for (String call : FACE) {
            String name = call.split(" ")[0];
            for (Method method : SecondBest.class.getMethods()) {
                if (method.getName().equals(name)) {
                    found.add(method);
                    Method other = Model.class.getDeclaredMethod(name, method.getParameterTypes());
                    other.setAccessible(true);
                    others.add(other);
                }
            }
        }
        int ofFace = 0;
        for (Method method : SecondBest.class.getMethods()) {
            ofFace += method.getDeclaringClass() == SecondBest.class ? 1 : 0;
        }
        CHECK.due("calls of the face", found.size(), ofFace);
        CHECK.due("calls that are made", found.size(), FACE.length);
        ofClass = found.toArray(new Method[0]);
        ofModel = others.toArray(new Method[0]);
    }

    private void go() throws ReflectiveOperationException {
        for (int n = 1; n <= CALLS; n++) {
            make(n, choose(n));
        }
    }

    private int choose(int n) {
        // At first players and matches, so that there is something to tell of; a text or a row once begun goes on.
        if (n <= mostPlayers) {
            return PLAYER;
        }
        if (n <= mostPlayers + 8 && random.nextBoolean()) {
            return MATCH;
        }
        if (!text.isEmpty() && random.nextInt(3) != 0) {
            return FEED;
        }
        if (run % 3 != 0 && m.count(2) < (mostPlayers == 8 && run % 8 == 0 ? 8 : 4) && random.nextInt(3) == 0) {
            return CUP;
        }
        return random.nextInt(3) == 0 ? liked[random.nextInt(liked.length)] : random.nextInt(FACE.length);
    }

    private void make(int n, int which) throws ReflectiveOperationException {
        String[] words = FACE[which].split(" ");
        Class<?>[] types = ofClass[which].getParameterTypes();
        Object[] told = new Object[types.length];
        StringBuilder call = new StringBuilder(words[0]).append('(');
        for (int i = 0; i < told.length; i++) {
            long v = isOdd(words[0]) ? ODD[random.nextInt(ODD.length)] : argument(words[i + 1]);
            told[i] = types[i] == long.class ? (Object) v : (Object) (int) v;
            call.append(i == 0 ? "" : ", ").append(v);
        }
        call.append(')');
        log.append(' ').append(call);
        long got = number(ofClass[which], x, told);
        long want = number(ofModel[which], m, told);
        if (got != want) {
            System.out.println("run " + run + ":" + log);
        }
        CHECK.due("run " + run + ", call " + n + ": " + call, got, want);
    }

    private boolean isOdd(String name) {
        // Few players beyond those that the run is for, so that questions can be asked to the end.
        return random.nextInt(name.equals("player") ? 200 : 60) == 0;
    }

    private static long number(Method method, Object of, Object[] told) throws ReflectiveOperationException {
        try {
            return ((Number) method.invoke(of, told)).longValue();
        } catch (InvocationTargetException e) {
            throw new AssertionError(method.getName() + " threw", e.getCause());
        }
    }

    private int upTo(int n) {
        return random.nextInt(Math.max(1, n));
    }

    private int pair() {
        int a = upTo(m.count(0));
        int b = upTo(m.count(0));
        // Most results go by the numbers, so that mostly there are orders.
        return random.nextInt(12) == 0 ? 10 * b + a : 10 * Math.min(a, b) + Math.max(a, b);
    }

    private int question() {
        int kind = upTo(7);
        return 10 * kind + (kind == 2 || kind == 6 ? upTo(m.count(0)) : kind == 5 ? 1 + upTo(m.count(0)) : 0);
    }

    private int letter() {
        if (text.isEmpty()) {
            text = LawTexts.some(random);
            text = text.length() > 20 && random.nextInt(4) != 0 ? "50+r" : text.isEmpty() ? "7" : text;
        }
        int letter = text.charAt(0);
        text = text.substring(1);
        return letter;
    }

    private long argument(String word) {
        switch (word) {
            case "worth": return m.count(0) < mostPlayers ? upTo(100) : 100;
            case "pair": return pair();
            case "shelf": return upTo(6);
            case "place": return upTo(random.nextInt(5) == 0 ? 60 : 6);
            case "few": return upTo(8);
            case "number": return upTo(8 + random.nextInt(5));
            case "two": return upTo(2);
            case "three": return upTo(3);
            case "four": return upTo(4);
            case "seven": return upTo(7);
            case "fifty": return 1 + upTo(50);
            case "value": return random.nextInt(3) == 0 ? upTo(100) : upTo(2);
            case "thing": return random.nextBoolean() ? upTo(4) : 10 + upTo(3);
            case "letter": return letter();
            case "standing": return random.nextInt(3) == 0 ? 0 : upTo(m.count(0) + 1) - 1;
            case "player": return upTo(m.count(0));
            case "newcomer": return random.nextInt(15) == 0 ? -1 : (3 * m.count(2) + run) % Math.max(1, m.count(0));
            case "question": return question();
            case "tables": return 1 + upTo(4);
            case "match": return upTo(m.count(1) + 1) - 1;
            case "kind": return upTo(8);
            case "body": return upTo(m.count(5) + 1) - (random.nextInt(4) == 0 ? 1 : 0);
            case "step": return upTo(14);
            case "sort": return random.nextInt(3) == 0 ? upTo(5) : 0;
            case "size": return random.nextInt(4) == 0 ? upTo(61) : upTo(12);
            case "far": return random.nextInt(3) == 0 ? random.nextLong() : upTo(m.count(0));
            default: return random.nextInt(3) == 0 ? random.nextInt() : upTo(40) - 20;
        }
    }
}
