import java.io.IOException;
import java.lang.management.ManagementFactory;
import java.lang.reflect.Constructor;
import java.lang.reflect.Field;
import java.lang.reflect.Method;
import java.lang.reflect.Modifier;
import java.nio.charset.StandardCharsets;
import java.nio.file.Files;
import java.nio.file.Path;
import java.util.Arrays;
import java.util.List;
import java.util.Set;
import java.util.TreeSet;
import java.util.regex.Matcher;
import java.util.regex.Pattern;

/** The rules of LANGUAGE.md that can be seen from outside, in the source, and in what calls make. */
public final class RulesTest {
    private static final Check CHECK = new Check();
    private static final String FACE = "int player(int) int match(int) int matches(int,int,int) int mend(int,int,int) "
        + "int of(int,int) int feed(int) int law() int orders(int) int sure(int) int places(int) int clash() int wrong() "
        + "int ask(int,int) int proof(int) int worst(int) int mean(int,int) int next(int,int) int longest(int) "
        + "int chance(int,int) int cup(int) long likely(int,int,int) int friend(int) int lots(int,int,int) "
        + "int champion(int) int table(int,int) int days(int,int) int undo() int redo() int body(int) "
        + "int act(int,int,int) int trace(int) int keep(int,int) int row(int,int,int) int put(int,int,long) "
        + "long element(int,int) int shift(int,int,int,int,int) int taken(int,int) int count(int)";

    public static void main(String[] args) throws IOException {
        face();
        String source = Files.readString(Path.of("src/main/java/SecondBest.java"), StandardCharsets.ISO_8859_1);
        source(source);
        String bare = source.replaceAll("(?s)/\\*.*?\\*/", "").replaceAll("//[^\n]*", "");
        words(bare);
        nested();
        methods(bare);
        room();
        CHECK.end();
    }

    private static void face() {
        Class<?> c = SecondBest.class;
        CHECK.that("public and final", c.getModifiers() == (Modifier.PUBLIC | Modifier.FINAL));
        Set<String> want = new TreeSet<>();
        for (String part : FACE.split("(?<=\\)) ")) {
            want.add(part);
        }
        Set<String> got = new TreeSet<>();
        for (Method m : c.getDeclaredMethods()) {
            String types = Arrays.toString(m.getParameterTypes()).replaceAll("[\\[\\] ]", "");
            if (!Modifier.isPrivate(m.getModifiers())) {
                got.add(m.getReturnType() + " " + m.getName() + "(" + types + ")");
                CHECK.that(m.getName() + " is public and no more", m.getModifiers() == Modifier.PUBLIC);
            }
        }
        CHECK.that("the face's methods are " + got, got.equals(want));
        Set<String> constants = new TreeSet<>();
        for (Field f : c.getDeclaredFields()) {
            if (!Modifier.isPrivate(f.getModifiers())) {
                constants.add(f.getName());
            }
        }
        CHECK.that("the constants", constants.equals(new TreeSet<>(List.of("BAD", "NOT", "FULL", "STATE", "VOID"))));
        Constructor<?>[] made = c.getDeclaredConstructors();
        CHECK.that("one constructor", made.length == 1 && made[0].getParameterCount() == 0
            && Modifier.isPublic(made[0].getModifiers()));
    }

    private static void source(String source) {
        boolean isPlain = true;
        for (int i = 0; i < source.length(); i++) {
            char c = source.charAt(i);
            isPlain &= c == '\n' || c >= 32 && c < 127;
        }
        CHECK.that("signs 32 to 126 alone", isPlain);
        for (String line : source.split("\n")) {
            CHECK.that("short lines: " + line, line.length() <= 120);
        }
    }

    private static void words(String bare) {
        String[] none = {"throw", "throws", "try", "catch", "synchronized", "assert", "package", "float", "double",
            "->", "::", "instanceof", "Exact", "hashCode", "equals", "toString", "System\\.(?!arraycopy)", "Random",
            "Thread", "native", "protected", "static\\s*\\{", "@"};
        for (String word : none) {
            String whole = Character.isLetter(word.charAt(0)) && Character.isLetter(word.charAt(word.length() - 1))
                ? "\\b" + word + "\\b" : word;
            CHECK.that("no " + word, !Pattern.compile(whole).matcher(bare).find());
        }
        Matcher imports = Pattern.compile("import ([^;]+);").matcher(bare);
        while (imports.find()) {
            CHECK.that("import " + imports.group(1), imports.group(1).equals("java.util.Arrays"));
        }
        Matcher library = Pattern.compile("\\b(Math|Integer|Long|Arrays|System)\\.(\\w+)").matcher(bare);
        Set<String> fine = Set.of("Math.max", "Math.min", "Integer.bitCount", "Integer.MAX_VALUE", "Long.MIN_VALUE",
            "Arrays.fill", "System.arraycopy");
        while (library.find()) {
            CHECK.that("library: " + library.group(), fine.contains(library.group()));
        }
    }

    private static void nested() {
        Class<?>[] inside = SecondBest.class.getDeclaredClasses();
        CHECK.that("at most twelve classes", inside.length + 1 <= 12);
        Set<String> publicNames = new TreeSet<>();
        for (Method m : SecondBest.class.getDeclaredMethods()) {
            if (Modifier.isPublic(m.getModifiers())) {
                publicNames.add(m.getName());
            }
        }
        for (Class<?> c : inside) {
            CHECK.that(c + " is static", Modifier.isStatic(c.getModifiers()));
            int fields = 0;
            for (Field f : c.getDeclaredFields()) {
                boolean isStatic = Modifier.isStatic(f.getModifiers());
                fields += isStatic ? 0 : 1;
                CHECK.that(f + " is final if it is static", !isStatic || Modifier.isFinal(f.getModifiers()));
            }
            CHECK.that(c + " has at most twenty fields", fields <= 20);
            for (Method m : c.getDeclaredMethods()) {
                CHECK.that(m + " bears no public name", !publicNames.contains(m.getName()));
            }
        }
        for (Method m : SecondBest.class.getDeclaredMethods()) {
            CHECK.that(m + " bears no public name",
                Modifier.isPublic(m.getModifiers()) || !publicNames.contains(m.getName()));
        }
    }

    private static void methods(String bare) {
        Matcher head = Pattern.compile("(?m)^( {4,8})(?:(?:public|private|static|final) )*[\\w\\[\\]]+ \\w+\\(([^)]*)\\) \\{$")
            .matcher(bare);
        int seen = 0;
        while (head.find()) {
            seen++;
            String params = head.group(2);
            CHECK.that(head.group() + " has at most seven parameters", params.split(",").length <= 7);
            int end = bare.indexOf("\n" + head.group(1) + "}\n", head.start());
            long lines = bare.substring(head.start(), end).lines().count();
            CHECK.that(head.group() + " has at most sixty lines", lines <= 60);
        }
        CHECK.that("methods were seen", seen > 100);
        Matcher loops = Pattern.compile("\\bwhile\\b").matcher(bare);
        CHECK.that("loops have their bounds in their head", !loops.find());
    }

    /** No call makes an object: one run's room holds what the constructor makes, and no more. */
    private static void room() {
        com.sun.management.ThreadMXBean bean = (com.sun.management.ThreadMXBean) ManagementFactory.getThreadMXBean();
        long me = Thread.currentThread().getId();
        dearCalls(new SecondBest());
        long before = bean.getThreadAllocatedBytes(me);
        SecondBest x = new SecondBest();
        long made = bean.getThreadAllocatedBytes(me) - before;
        CHECK.that("a new object takes " + made + " bytes", made < 40000);
        before = bean.getThreadAllocatedBytes(me);
        dearCalls(x);
        long more = bean.getThreadAllocatedBytes(me) - before;
        CHECK.that("calls took " + more + " bytes", more < 1000);
    }

    private static void dearCalls(SecondBest x) {
        for (int p = 0; p < 8; p++) {
            x.player(10 * p);
            x.cup(p);
            if (p == 3 || p == 4) {
                for (int qk = 0; qk < 70; qk++) {
                    x.worst(qk);
                    x.mean(qk, 0);
                    x.next(qk, 0);
                    x.proof(qk);
                }
            }
        }
        for (int m = 0; m < 12; m++) {
            x.match(10 * (m % 7) + m % 7 + 1);
            x.body(m % 8);
            x.row(m % 6, 0, 60);
        }
        for (int n = 0; n < 119; n++) {
            x.feed(n % 2 == 0 ? 'r' : '*');
        }
        x.law();
        for (int n = 0; n < 20; n++) {
            x.orders(-1);
            x.clash();
            x.wrong();
            x.places(1);
            x.sure(12);
            x.longest(25);
            x.likely(1, 0, 0);
            x.lots(5, 50, 1);
            x.champion(1);
            x.table(3, 0);
            x.days(2, -1);
            x.act(7, 3, 5);
            x.mend(n % 8, 0, n);
            x.shift(0, 0, 1, 0, 60);
        }
    }
}
