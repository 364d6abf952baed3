import java.math.BigInteger;
import java.util.ArrayDeque;
import java.util.ArrayList;
import java.util.Deque;
import java.util.HashMap;
import java.util.HashSet;
import java.util.List;
import java.util.Map;
import java.util.Set;

/**
 * The document once more, by other means: orders are listed one by one, acts
 * are methods of real classes, shelves hold real arrays, fractions are of big
 * integers. Slow, and only for tests.
 */
final class Model {
    static final int BAD = -1, NOT = -2, FULL = -3, STATE = -5;

    private final List<Integer> worths = new ArrayList<>();
    private final List<int[]> games = new ArrayList<>();
    private final StringBuilder tape = new StringBuilder();
    private String text;
    private final List<Integer> cupRow = new ArrayList<>();
    private final Deque<int[]> undoable = new ArrayDeque<>();
    private final Deque<int[]> redoable = new ArrayDeque<>();
    private final List<ModelActs.Match> bodies = new ArrayList<>();
    private final List<Integer> trace = new ArrayList<>();
    private final Object[] shelves = new Object[6];

    // ---- players, matches

    int player(int worth) {
        if (worth < 0 || worth > 99) return BAD;
        if (worths.size() == 8) return FULL;
        worths.add(worth);
        return worths.size() - 1;
    }

    private boolean isPlayer(int p) {
        return p >= 0 && p < worths.size();
    }

    private boolean isPair(int ab) {
        return ab >= 0 && isPlayer(ab / 10) && isPlayer(ab % 10) && ab / 10 != ab % 10;
    }

    int match(int wl) {
        if (!isPair(wl)) return BAD;
        if (games.size() == 12) return FULL;
        games.add(new int[] {wl / 10, wl % 10, 1});
        return games.size() - 1;
    }

    int matches(int shelf, int i, int n) {
        if (shelf < 0 || shelf > 5 || n < 1 || n > 12) return BAD;
        int came = 0;
        try {
            byte[] row = (byte[]) shelves[shelf];
            while (came < n) {
                int won = row[i + 2 * came];
                int lost = row[i + 2 * came + 1];
                if (!isPlayer(won) || !isPlayer(lost) || match(10 * won + lost) < 0) break;
                came++;
            }
        } catch (ClassCastException e) {
            return -12;
        } catch (NullPointerException | ArrayIndexOutOfBoundsException e) {
            return came;
        }
        return came;
    }

    int mend(int number, int what, int v) {
        if (what == 0 && isPlayer(number) && v >= 0 && v <= 99 || what == 1 && number >= 0 && number < games.size()
                && (v == 0 || v == 1)) {
            int was = what == 0 ? worths.get(number) : games.get(number)[2];
            if (was != v) {
                redoable.clear();
                undoable.addLast(new int[] {what, number, was, v});
                if (undoable.size() > 40) undoable.removeFirst();
                set(what, number, v);
            }
            return was;
        }
        return BAD;
    }

    private void set(int what, int number, int v) {
        if (what == 0) worths.set(number, v);
        else games.get(number)[2] = v;
    }

    int undo() {
        if (undoable.isEmpty()) return STATE;
        int[] c = undoable.removeLast();
        redoable.addLast(c);
        set(c[0], c[1], c[2]);
        return undoable.size();
    }

    int redo() {
        if (redoable.isEmpty()) return STATE;
        int[] c = redoable.removeLast();
        undoable.addLast(c);
        set(c[0], c[1], c[3]);
        return redoable.size();
    }

    int of(int number, int what) {
        if (what >= 0 && what <= 3 && isPlayer(number)) {
            int won = 0;
            int lost = 0;
            for (int[] g : games) {
                if (g[2] == 1 && g[0] == number) won++;
                if (g[2] == 1 && g[1] == number) lost++;
            }
            return new int[] {worths.get(number), won, lost, won}[what];
        }
        if (what >= 10 && what <= 12 && number >= 0 && number < games.size()) return games.get(number)[what - 10];
        return BAD;
    }

    int feed(int letter) {
        if (letter < 0 || letter > 255) return BAD;
        if (tape.length() == 120) return FULL;
        tape.append((char) letter);
        return tape.length();
    }

    int law() {
        String t = tape.toString();
        tape.setLength(0);
        int fault = ModelLaw.fault(t);
        if (fault >= 0) return -100 - fault;
        text = t;
        return 1;
    }

    // ---- orders

    private String ordersKey = "";
    private List<int[]> ordersKept;

    private List<int[]> orders() {
        StringBuilder key = new StringBuilder().append(worths.size());
        for (int[] g : games) key.append(',').append(g[0]).append(g[1]).append(g[2]);
        if (!key.toString().equals(ordersKey)) {
            ordersKey = key.toString();
            List<int[]> counting = new ArrayList<>();
            for (int[] g : games) if (g[2] == 1) counting.add(g);
            ordersKept = fitting(worths.size(), counting);
        }
        return ordersKept;
    }

    static List<int[]> fitting(int n, List<int[]> results) {
        List<int[]> found = new ArrayList<>();
        int[] order = new int[n];
        for (int i = 0; i < n; i++) order[i] = i;
        do {
            if (fits(order, results)) found.add(order.clone());
        } while (nextPermutation(order));
        return found;
    }

    private static boolean fits(int[] order, List<int[]> results) {
        int[] place = new int[order.length];
        for (int i = 0; i < order.length; i++) place[order[i]] = i;
        for (int[] g : results) if (place[g[0]] > place[g[1]]) return false;
        return true;
    }

    private static boolean nextPermutation(int[] a) {
        int i = a.length - 2;
        while (i >= 0 && a[i] > a[i + 1]) i--;
        if (i < 0) return false;
        int j = a.length - 1;
        while (a[j] < a[i]) j--;
        int t = a[i];
        a[i] = a[j];
        a[j] = t;
        for (int l = i + 1, r = a.length - 1; l < r; l++, r--) {
            t = a[l];
            a[l] = a[r];
            a[r] = t;
        }
        return true;
    }

    int orders(int place) {
        if (place < -1 || place >= worths.size()) return BAD;
        if (place == -1) return orders().size();
        return orders().isEmpty() ? NOT : orders().get(0)[place];
    }

    private static int ahead(List<int[]> orders, int a, int b) {
        int n = 0;
        for (int[] o : orders) {
            for (int p : o) {
                if (p == a) n++;
                if (p == a || p == b) break;
            }
        }
        return n;
    }

    int sure(int ab) {
        if (!isPair(ab)) return BAD;
        if (orders().isEmpty()) return 0;
        int first = ahead(orders(), ab / 10, ab % 10);
        return first == orders().size() ? 1 : first == 0 ? 2 : 0;
    }

    int places(int player) {
        if (!isPlayer(player)) return BAD;
        int bits = 0;
        for (int[] o : orders()) for (int i = 0; i < o.length; i++) if (o[i] == player) bits |= 1 << i;
        return bits;
    }

    private boolean isCyclic(int set) {
        boolean[][] beats = new boolean[8][8];
        for (int m = 0; m < games.size(); m++) if ((set >> m & 1) == 1) beats[games.get(m)[0]][games.get(m)[1]] = true;
        for (int k = 0; k < 8; k++)
            for (int i = 0; i < 8; i++) for (int j = 0; j < 8; j++) beats[i][j] |= beats[i][k] && beats[k][j];
        for (int i = 0; i < 8; i++) if (beats[i][i]) return true;
        return false;
    }

    private int counting() {
        int bits = 0;
        for (int m = 0; m < games.size(); m++) bits |= games.get(m)[2] << m;
        return bits;
    }

    int clash() {
        for (int m = 0; m < games.size(); m++) {
            int upTo = counting() & (1 << m + 1) - 1;
            if ((upTo >> m & 1) == 1 && isCyclic(upTo)) return m;
        }
        return NOT;
    }

    int wrong() {
        int all = counting();
        for (int size = 0; size <= 12; size++)
            for (int set = 0; set < 4096; set++)
                if ((set & ~all) == 0 && Integer.bitCount(set) == size && !isCyclic(all & ~set)) return set;
        return -999;
    }

    // ---- questions

    private boolean isQuestion(int qk) {
        if (qk < 0 || qk > 69) return false;
        int kind = qk / 10;
        int k = qk % 10;
        if (kind == 2 || kind == 6) return isPlayer(k);
        if (kind == 5) return k >= 1 && k <= worths.size();
        return k == 0;
    }

    private static String answer(int[] o, int qk) {
        int k = qk % 10;
        switch (qk / 10) {
            case 0: return "" + o[0];
            case 1: return o.length == 1 ? "" + o[0] : o[0] + " " + o[1];
            case 2: return "" + o[k];
            case 3: return o[0] + " " + o[o.length - 1];
            case 4: {
                StringBuilder all = new StringBuilder();
                for (int p : o) all.append(p);
                return all.toString();
            }
            case 5: {
                int set = 0;
                for (int i = 0; i < k; i++) set |= 1 << o[i];
                return "" + set;
            }
            default: return "" + (o[o.length - 1] == k);
        }
    }

    private static int answers(List<int[]> orders, int qk) {
        Set<String> unlike = new HashSet<>();
        for (int[] o : orders) unlike.add(answer(o, qk));
        return unlike.size();
    }

    int ask(int qk, int what) {
        if (!isQuestion(qk) || what < 0 || what > 2) return BAD;
        if (worths.isEmpty()) return STATE;
        int answers = answers(orders(), qk);
        if (what == 0) return answers < 2 ? 1 : 0;
        if (what == 1) return answers;
        int bound = 0;
        while (answers > 1 && Math.pow(2, bound) < answers) bound++;
        return bound;
    }

    int proof(int qk) {
        if (!isQuestion(qk)) return BAD;
        if (worths.isEmpty() || worths.size() > 5) return STATE;
        if (answers(orders(), qk) != 1) return NOT;
        int all = counting();
        for (int size = 0; size <= 12; size++) {
            for (int set = 0; set < 4096; set++) {
                if ((set & ~all) != 0 || Integer.bitCount(set) != size) continue;
                List<int[]> some = new ArrayList<>();
                for (int m = 0; m < games.size(); m++) if ((set >> m & 1) == 1) some.add(games.get(m));
                if (answers(fitting(worths.size(), some), qk) == 1) return set;
            }
        }
        return -999;
    }

    private boolean isSmall() {
        return worths.size() >= 1 && worths.size() <= 4;
    }

    /** {worst, sum} of what is left, as a set of the orders listed. */
    private int[] least(int set, List<int[]> orders, int qk, Map<Integer, int[]> seen) {
        int[] known = seen.get(set);
        if (known != null) return known;
        List<int[]> left = new ArrayList<>();
        for (int i = 0; i < orders.size(); i++) if ((set >> i & 1) == 1) left.add(orders.get(i));
        int[] best = {0, 0};
        if (answers(left, qk) > 1) {
            best = new int[] {99, 9999};
            for (int a = 0; a < worths.size(); a++) {
                for (int b = a + 1; b < worths.size(); b++) {
                    int ifA = after(set, orders, a, b);
                    if (ifA == 0 || ifA == set) continue;
                    int[] one = least(ifA, orders, qk, seen);
                    int[] two = least(set & ~ifA, orders, qk, seen);
                    best[0] = Math.min(best[0], 1 + Math.max(one[0], two[0]));
                    best[1] = Math.min(best[1], left.size() + one[1] + two[1]);
                }
            }
        }
        seen.put(set, best);
        return best;
    }

    private static int after(int set, List<int[]> orders, int a, int b) {
        int kept = 0;
        for (int i = 0; i < orders.size(); i++)
            if ((set >> i & 1) == 1 && ahead(orders.subList(i, i + 1), a, b) == 1) kept |= 1 << i;
        return kept;
    }

    private int[] least(int qk) {
        return least((1 << orders().size()) - 1, orders(), qk, new HashMap<>());
    }

    int worst(int qk) {
        if (!isQuestion(qk)) return BAD;
        return isSmall() ? least(qk)[0] : STATE;
    }

    int mean(int qk, int part) {
        if (!isQuestion(qk) || part < 0 || part > 1) return BAD;
        if (!isSmall()) return STATE;
        BigInteger above = BigInteger.valueOf(least(qk)[1]);
        BigInteger below = BigInteger.valueOf(Math.max(1, orders().size()));
        return (part == 0 ? above : below).divide(above.gcd(below)).intValueExact();
    }

    int next(int qk, int what) {
        if (!isQuestion(qk) || what < 0 || what > 1) return BAD;
        if (!isSmall()) return STATE;
        if (answers(orders(), qk) < 2) return NOT;
        int all = (1 << orders().size()) - 1;
        Map<Integer, int[]> seen = new HashMap<>();
        int worst = least(all, orders(), qk, seen)[0];
        for (int a = 0; a < worths.size(); a++) {
            for (int b = a + 1; b < worths.size(); b++) {
                int ifA = after(all, orders(), a, b);
                int one = least(ifA, orders(), qk, seen)[0];
                int two = least(all & ~ifA, orders(), qk, seen)[0];
                if (1 + Math.max(one, two) == worst) return what == 0 ? a : b;
            }
        }
        return -999;
    }

    int longest(int ab) {
        if (!isPair(ab)) return BAD;
        if (orders().isEmpty()) return NOT;
        int a = ab / 10;
        int b = ab % 10;
        int ifA = ahead(orders(), a, b);
        int ifB = ahead(orders(), b, a);
        return ifA > ifB ? a : ifB > ifA ? b : Math.min(a, b);
    }

    // ---- cups, leagues, days

    private int hundredths(int p, int q, int r) {
        if (p > q) return 100 - hundredths(q, p, r);
        int x = worths.get(p);
        int y = worths.get(q);
        int told = text == null ? 50 + (x - y) / 2 : ModelLaw.value(text, p, q, x, y, r);
        return told < 0 ? 0 : told > 100 ? 100 : told;
    }

    int chance(int ab, int r) {
        if (!isPair(ab) || r < 0 || r > 2) return BAD;
        return hundredths(ab / 10, ab % 10, r);
    }

    int cup(int player) {
        if (player == -1) {
            cupRow.clear();
            return 0;
        }
        if (!isPlayer(player) || cupRow.contains(player)) return BAD;
        if (cupRow.size() == 8) return FULL;
        cupRow.add(player);
        return cupRow.size();
    }

    /** {above, below} for each who may come out of a part of a row, by players. */
    private Map<Integer, BigInteger[]> comesOut(List<Integer> part) {
        Map<Integer, BigInteger[]> out = new HashMap<>();
        if (part.size() == 1) {
            out.put(part.get(0), new BigInteger[] {BigInteger.ONE, BigInteger.ONE});
            return out;
        }
        int half = part.size() / 2;
        Map<Integer, BigInteger[]> left = comesOut(part.subList(0, half));
        Map<Integer, BigInteger[]> right = comesOut(part.subList(half, part.size()));
        int round = part.size() == 2 ? 0 : part.size() == 4 ? 1 : 2;
        for (int p : left.keySet()) {
            for (int q : right.keySet()) {
                add(out, p, left.get(p), right.get(q), hundredths(p, q, round));
                add(out, q, left.get(p), right.get(q), hundredths(q, p, round));
            }
        }
        return out;
    }

    private static void add(Map<Integer, BigInteger[]> out, int who, BigInteger[] f, BigInteger[] g, int h) {
        BigInteger above = f[0].multiply(g[0]).multiply(BigInteger.valueOf(h));
        BigInteger below = f[1].multiply(g[1]).multiply(BigInteger.valueOf(100));
        BigInteger[] so = out.get(who);
        if (so == null) so = new BigInteger[] {BigInteger.ZERO, BigInteger.ONE};
        BigInteger a = so[0].multiply(below).add(above.multiply(so[1]));
        BigInteger b = so[1].multiply(below);
        BigInteger d = a.gcd(b);
        out.put(who, new BigInteger[] {a.divide(d), b.divide(d)});
    }

    private boolean isWhole() {
        return cupRow.size() == 4 || cupRow.size() == 8;
    }

    private List<Integer> partOf(int player, int size) {
        int from = cupRow.indexOf(player) / size * size;
        return cupRow.subList(from, from + size);
    }

    long likely(int player, int what, int part) {
        if (!cupRow.contains(player) || what < 0 || what > 2 || part < 0 || part > 1 || !isWhole()) return Long.MIN_VALUE;
        int size = what == 0 ? cupRow.size() : what == 1 ? cupRow.size() / 2 : 2;
        BigInteger[] f = comesOut(partOf(player, size)).get(player);
        if (what == 2) f = new BigInteger[] {f[1].subtract(f[0]), f[1]};
        BigInteger d = f[0].gcd(f[1]);
        return f[part].divide(d).longValueExact();
    }

    int friend(int player) {
        if (!cupRow.contains(player)) return BAD;
        if (cupRow.size() != 4) return STATE;
        int a = cupRow.get(0);
        int b = cupRow.get(1);
        int c = cupRow.get(2);
        int d = cupRow.get(3);
        List<List<Integer>> ways = List.of(List.of(a, b, c, d), List.of(a, c, b, d), List.of(a, d, b, c));
        int best = 0;
        BigInteger[] most = null;
        for (int w = 0; w < 3; w++) {
            BigInteger[] f = comesOut(ways.get(w)).get(player);
            if (most == null || f[0].multiply(most[1]).compareTo(most[0].multiply(f[1])) > 0) {
                most = f;
                best = w;
            }
        }
        return best;
    }

    int lots(int seed, int n, int player) {
        if (!cupRow.contains(player) || n < 1 || n > 50) return BAD;
        if (!isWhole()) return STATE;
        int z = seed;
        int won = 0;
        for (int c = 0; c < n; c++) {
            List<Integer> in = new ArrayList<>(cupRow);
            for (int round = 0; in.size() > 1; round++) {
                List<Integer> on = new ArrayList<>();
                for (int i = 0; i < in.size(); i += 2) {
                    int a = Math.min(in.get(i), in.get(i + 1));
                    int b = Math.max(in.get(i), in.get(i + 1));
                    z = z * 1103515245 + 12345;
                    on.add((z >>> 8) % 100 < hundredths(a, b, round) ? a : b);
                }
                in = on;
            }
            if (in.get(0) == player) won++;
        }
        return won;
    }

    private boolean isWorthier(int p, int q) {
        return worths.get(p) > worths.get(q) || worths.get(p).equals(worths.get(q)) && p < q;
    }

    int champion(int what) {
        if (what < 0 || what > 1) return BAD;
        if (!isWhole()) return STATE;
        int best = cupRow.get(0);
        for (int p : cupRow) if (isWorthier(p, best)) best = p;
        if (what == 0) return best;
        // Who of worth is met in round r came out of the other half of a part twice as large.
        int second = -1;
        for (int size = 2; size <= cupRow.size(); size *= 2) {
            List<Integer> rivals = new ArrayList<>(partOf(best, size));
            rivals.removeAll(partOf(best, size / 2));
            int rival = rivals.get(0);
            for (int p : rivals) if (isWorthier(p, rival)) rival = p;
            if (second < 0 || isWorthier(rival, second)) second = rival;
        }
        return second;
    }

    private List<Integer> standing() {
        List<Integer> table = new ArrayList<>();
        for (int p = 0; p < worths.size(); p++) table.add(p);
        table.sort((p, q) -> of(p, 3) != of(q, 3) ? of(q, 3) - of(p, 3) : of(p, 2) != of(q, 2) ? of(p, 2) - of(q, 2) : p - q);
        return table;
    }

    int table(int place, int what) {
        if (what < 0 || what > 2) return BAD;
        if (what == 2 && place != 0) return BAD;
        if (what < 2 && !isPlayer(place)) return BAD;
        if (worths.isEmpty()) return STATE;
        List<Integer> table = standing();
        if (what == 0) return table.get(place);
        if (what == 1) return of(table.get(place), 3);
        int lost = 0;
        for (int[] g : games) if (g[2] == 1 && table.indexOf(g[1]) < table.indexOf(g[0])) lost++;
        return lost;
    }

    int days(int tables, int match) {
        if (tables < 1 || tables > 4 || match < -1 || match >= games.size()) return BAD;
        if (match >= 0 && games.get(match)[2] == 0) return NOT;
        List<List<Integer>> days = new ArrayList<>();
        for (int m = 0; m < games.size(); m++) {
            int[] g = games.get(m);
            if (g[2] == 0) continue;
            int d = 0;
            while (d < days.size() && (days.get(d).size() == 2 * tables || days.get(d).contains(g[0])
                    || days.get(d).contains(g[1]))) d++;
            if (d == days.size()) days.add(new ArrayList<>());
            days.get(d).add(g[0]);
            days.get(d).add(g[1]);
            if (m == match) return d;
        }
        return days.size();
    }

    // ---- acts, shelves

    int body(int kind) {
        if (kind < 0 || kind > 7) return BAD;
        if (bodies.size() == 50) return FULL;
        bodies.add(ModelActs.make(kind, bodies.size(), trace));
        return bodies.size() - 1;
    }

    int act(int body, int act, int x) {
        trace.clear();
        if (body < 0 || body >= bodies.size()) return 0;
        ModelActs.Match m = bodies.get(body);
        switch (act) {
            case 0: return m.beats(x);
            case 1: return m.stands(x);
            case 2: return m.asks(x);
            case 3: return m.tells(x);
            default: return 0;
        }
    }

    int trace(int i) {
        return i < 0 || i >= Math.min(24, trace.size()) ? BAD : trace.get(i);
    }

    private static boolean isShelf(int shelf) {
        return shelf >= 0 && shelf <= 5;
    }

    int keep(int shelf, int body) {
        if (!isShelf(shelf) || body < -1 || body >= bodies.size()) return BAD;
        shelves[shelf] = body == -1 ? null : bodies.get(body);
        return 1;
    }

    int row(int shelf, int sort, int n) {
        if (!isShelf(shelf) || sort < 0 || sort > 4 || n > 60) return BAD;
        try {
            switch (sort) {
                case 0: shelves[shelf] = new byte[n]; break;
                case 1: shelves[shelf] = new short[n]; break;
                case 2: shelves[shelf] = new int[n]; break;
                case 3: shelves[shelf] = new long[n]; break;
                default: shelves[shelf] = new boolean[n]; break;
            }
        } catch (NegativeArraySizeException e) {
            return -14;
        }
        return 1;
    }

    private int reach(int shelf, int i) {
        if (!isShelf(shelf)) return BAD;
        if (shelves[shelf] == null) return -11;
        if (!shelves[shelf].getClass().isArray()) return -12;
        return i < 0 || i >= java.lang.reflect.Array.getLength(shelves[shelf]) ? -13 : 1;
    }

    int put(int shelf, int i, long v) {
        int reached = reach(shelf, i);
        if (reached != 1) return reached;
        Object row = shelves[shelf];
        if (row instanceof byte[]) ((byte[]) row)[i] = (byte) v;
        if (row instanceof short[]) ((short[]) row)[i] = (short) v;
        if (row instanceof int[]) ((int[]) row)[i] = (int) v;
        if (row instanceof long[]) ((long[]) row)[i] = v;
        if (row instanceof boolean[]) ((boolean[]) row)[i] = v != 0;
        return 1;
    }

    long element(int shelf, int i) {
        if (reach(shelf, i) != 1) return Long.MIN_VALUE;
        Object row = shelves[shelf];
        if (row instanceof boolean[]) return ((boolean[]) row)[i] ? 1 : 0;
        return java.lang.reflect.Array.getLong(row, i);
    }

    int shift(int shelf, int i, int other, int j, int n) {
        if (!isShelf(shelf) || !isShelf(other)) return BAD;
        try {
            System.arraycopy(shelves[shelf], i, shelves[other], j, n);
        } catch (NullPointerException e) {
            return -11;
        } catch (ArrayStoreException e) {
            return -12;
        } catch (IndexOutOfBoundsException e) {
            return -13;
        }
        return n;
    }

    int taken(int shelf, int k) {
        if (!isShelf(shelf) || k < 0 || k > 7) return BAD;
        if (shelves[shelf] == null) return -11;
        try {
            ModelActs.Match m = (ModelActs.Match) ModelActs.KINDS[k].cast(shelves[shelf]);
            for (int kind = 0; kind < 8; kind++) if (m.getClass() == ModelActs.KINDS[kind]) return kind;
        } catch (ClassCastException e) {
            return -12;
        }
        return -999;
    }

    int count(int what) {
        switch (what) {
            case 0: return worths.size();
            case 1: return games.size();
            case 2: return cupRow.size();
            case 3: return tape.length();
            case 4: return undoable.size();
            case 5: return bodies.size();
            case 6: return trace.size();
            default: return BAD;
        }
    }
}
