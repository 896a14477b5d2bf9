import java.util.ArrayDeque;
import java.util.ArrayList;
import java.util.Arrays;
import java.util.Deque;
import java.util.HashSet;
import java.util.List;
import java.util.Set;
import java.util.regex.Matcher;
import java.util.regex.Pattern;

/**
 * The document once more, slow and by other ways than the class: regular expressions for ITEMS,
 * Gauss on fractions for CHANCE, rows of TICKS one by one for WHERE, every cut and every way of
 * AREAS by recursion.
 */
final class Model {
    static final int BAD = -1, NO = -2, FULL = -3, NONE = -4;
    static final String FIRST =
        "n6;j0,1,2,1;j1,2,1,1;j2,3,3,1;j3,4,1,2;j4,5,1,1;j5,0,2,2;j1,4,1,1;s2,4;a3,1;a4,1;a5,1;p2,1,5,10;";

    private static final String NUM = "([0-9]{1,2})";
    private static final Pattern ITEM = Pattern.compile(
        "n" + NUM + "|([jp])" + NUM + "," + NUM + "," + NUM + "," + NUM + "|([sal])" + NUM + "," + NUM);

    /** All that a LAID TEXT tells. */
    private static final class Told implements Cloneable {
        int n, joins;
        int[][] w = new int[6][6];
        int[] stay = new int[6], area = new int[6];
        int kind, value, r = 2, c = 1, u = 5, q = 10;
        int at, home, moves, ticks, updates, paged;

        Told copy() {
            Told t = new Told();
            t.n = n; t.joins = joins; t.w = w;
            t.stay = stay.clone(); t.area = area.clone();
            t.kind = kind; t.value = value; t.r = r; t.c = c; t.u = u; t.q = q;
            t.at = at; t.home = home; t.moves = moves; t.ticks = ticks; t.updates = updates; t.paged = paged;
            return t;
        }
    }

    private final StringBuilder text = new StringBuilder();
    private final Deque<Told> past = new ArrayDeque<>();
    private Told now;
    private Fraction[] chances;
    private int[] chancesOf;
    private int[] bestAreas;
    private Fraction bestExpense;

    Model() {
        text.append(FIRST);
        if (lay() != 6) throw new IllegalStateException();
        text.setLength(0);
    }

    int write(int letter) {
        if (letter < 32 || letter > 126) return BAD;
        if (text.length() >= 200) return FULL;
        text.append((char) letter);
        return text.length();
    }

    int wipe() {
        int was = text.length();
        text.setLength(0);
        return was;
    }

    private Told told;

    int fault() {
        told = new Told();
        int at = 0;
        while (at < text.length()) {
            int end = text.indexOf(";", at);
            if (end < 0 || !take(text.substring(at, end))) return at;
            at = end + 1;
        }
        return NONE;
    }

    private boolean take(String item) {
        Matcher m = ITEM.matcher(item);
        if (!m.matches()) return false;
        if (m.group(1) != null) {
            int n = Integer.parseInt(m.group(1));
            if (told.n != 0 || n < 2 || n > 6) return false;
            told.n = n;
            Arrays.fill(told.stay, 1);
            return true;
        }
        if (told.n == 0) return false;
        boolean four = m.group(2) != null;
        String letter = four ? m.group(2) : m.group(7);
        int[] v = new int[four ? 4 : 2];
        for (int i = 0; i < v.length; i++) v[i] = Integer.parseInt(m.group((four ? 3 : 8) + i));
        switch (letter) {
            case "j":
                if (v[0] >= told.n || v[1] >= told.n || v[0] == v[1] || told.w[v[0]][v[1]] > 0) return false;
                if (v[2] < 1 || v[2] > 4 || v[3] < 1 || v[3] > 4) return false;
                told.w[v[0]][v[1]] = v[2];
                told.w[v[1]][v[0]] = v[3];
                told.joins++;
                return true;
            case "p":
                if (v[0] < 1 || v[0] > 4) return false;
                told.r = v[0]; told.c = v[1]; told.u = v[2]; told.q = v[3];
                return true;
            case "s":
                if (v[0] >= told.n || v[1] > 9) return false;
                told.stay[v[0]] = v[1];
                return true;
            case "a":
                if (v[0] >= told.n || v[1] > 5) return false;
                told.area[v[0]] = v[1];
                return true;
            default:
                if (!lawful(v[0], v[1])) return false;
                told.kind = v[0]; told.value = v[1];
                return true;
        }
    }

    private static boolean lawful(int k, int v) {
        return k == 0 && v == 0 || (k == 1 || k == 2 || k == 3) && v >= 1 && v <= 9;
    }

    int lay() {
        if (fault() != NONE || told.n == 0) return NO;
        for (int c = 0; c < told.n; c++) if (hops(told, 0, c) < 0) return NO;
        now = told;
        past.clear();
        chances = null;
        return now.n;
    }

    /** By breadth, ring by ring; -1 if no way leads there. */
    private static int hops(Told t, int a, int b) {
        Set<Integer> seen = new HashSet<>(List.of(a));
        for (int d = 0; d < 7; d++) {
            if (seen.contains(b)) return d;
            Set<Integer> more = new HashSet<>(seen);
            for (int x : seen) for (int y = 0; y < t.n; y++) if (t.w[x][y] > 0) more.add(y);
            seen = more;
        }
        return -1;
    }

    private void change() {
        past.addLast(now);
        if (past.size() > 6) past.removeFirst();
        now = now.copy();
    }

    private static void register(Told t) {
        t.home = t.at;
        t.moves = 0;
        t.ticks = 0;
    }

    private boolean isCell(int c) {
        return c >= 0 && c < now.n;
    }

    int set(int c, int what, int v) {
        if (!isCell(c)) return BAD;
        if (what == 0) {
            if (v < 0 || v > 9) return BAD;
            int was = now.stay[c];
            if (was == v) return NO;
            change();
            now.stay[c] = v;
            register(now);
            return was;
        }
        if (what != 1 || v < 0 || v > 5) return BAD;
        int was = now.area[c];
        if (was == v) return NO;
        change();
        now.area[c] = v;
        register(now);
        return was;
    }

    int law(int kind, int v) {
        if (!lawful(kind, v)) return BAD;
        if (now.kind == kind && now.value == v) return NO;
        int was = now.kind * 10 + now.value;
        change();
        now.kind = kind;
        now.value = v;
        register(now);
        return was;
    }

    int give() {
        search();
        change();
        int others = 0;
        for (int c = 0; c < now.n; c++) {
            if (now.area[c] != bestAreas[c]) others++;
            now.area[c] = bestAreas[c];
        }
        register(now);
        return others;
    }

    int undo() {
        if (past.isEmpty()) return NO;
        now = past.removeLast();
        return past.size();
    }

    private static int sum(Told t, int c) {
        return t.stay[c] + Arrays.stream(t.w[c]).sum();
    }

    private static int crowd(int[] area, int n, int c) {
        int k = 0;
        for (int d = 0; d < n; d++) if (area[d] == area[c]) k++;
        return k;
    }

    int cell(int c, int what) {
        if (!isCell(c)) return BAD;
        int bits = 0;
        for (int d = 0; d < now.n; d++) if (now.w[c][d] > 0) bits += 1 << d;
        return what == 0 ? now.stay[c] : what == 1 ? now.area[c] : what == 2 ? sum(now, c)
            : what == 3 ? bits : what == 4 ? crowd(now.area, now.n, c) : BAD;
    }

    int weight(int a, int b) {
        return !isCell(a) || !isCell(b) || a == b ? BAD : now.w[a][b];
    }

    int wide(int a, int b) {
        return !isCell(a) || !isCell(b) ? BAD : hops(now, a, b);
    }

    private static boolean canGo(Told t, int c) {
        return c == t.at ? t.stay[c] != 0 : t.w[t.at][c] != 0;
    }

    /** Goes there; true if an UPDATE is due, the state being left as it is ahead of it. */
    private static boolean goes(Told t, int c) {
        if (c != t.at) t.moves++;
        t.ticks++;
        t.at = c;
        return t.kind == 0 && t.area[c] != t.area[t.home]
            || t.kind == 1 && t.moves == t.value
            || t.kind == 2 && t.ticks == t.value
            || t.kind == 3 && hops(t, t.home, c) >= t.value;
    }

    int tick(int c) {
        if (!isCell(c)) return BAD;
        if (!canGo(now, c)) return NO;
        change();
        if (!goes(now, c)) return 0;
        now.updates++;
        register(now);
        return 1;
    }

    int where() {
        Set<List<Integer>> held = new HashSet<>();
        held.add(List.of(now.home, 0));
        for (int t = 0; t < now.ticks; t++) {
            Set<List<Integer>> then = new HashSet<>();
            for (List<Integer> h : held) {
                for (int c = 0; c < now.n; c++) {
                    Told a = now.copy();
                    a.at = h.get(0);
                    // only MOVES asks for them, and else they would be without end
                    a.moves = now.kind == 1 ? h.get(1) : 0;
                    a.ticks = t;
                    if (canGo(a, c) && !goes(a, c)) then.add(List.of(a.at, now.kind == 1 ? a.moves : 0));
                }
            }
            held = then;
        }
        int bits = 0;
        for (List<Integer> h : held) bits |= 1 << h.get(0);
        return bits;
    }

    private List<Integer> row;
    private List<Integer> bestCut;
    private Fraction bestMean;

    /** The ROUNDS, each as bits. */
    private List<Integer> rounds() {
        Fraction[] p = chances();
        row = new ArrayList<>();
        int bits = where();
        for (int c = 0; c < now.n; c++) if ((bits >> c & 1) == 1) row.add(c);
        row.sort((a, b) -> p[b].compareTo(p[a]) != 0 ? p[b].compareTo(p[a]) : a - b);
        bestCut = null;
        for (int many = 1; many <= now.r; many++) cut(new ArrayList<>(), 0, many);
        List<Integer> all = new ArrayList<>();
        int at = 0;
        for (int len : bestCut) {
            int b = 0;
            for (int i = 0; i < len; i++) b |= 1 << row.get(at++);
            all.add(b);
        }
        return all;
    }

    private void cut(List<Integer> lens, int used, int left) {
        if (left == 0) {
            if (used < row.size()) return;
            Fraction mean = Fraction.ZERO;
            int upTo = 0, at = 0;
            for (int len : lens) {
                upTo += len;
                for (int i = 0; i < len; i++) mean = mean.plus(chances()[row.get(at++)].times(Fraction.of(upTo, 1)));
            }
            if (bestCut == null || mean.compareTo(bestMean) < 0) {
                bestCut = new ArrayList<>(lens);
                bestMean = mean;
            }
            return;
        }
        for (int len = 1; used + len <= row.size(); len++) {
            lens.add(len);
            cut(lens, used + len, left - 1);
            lens.remove(lens.size() - 1);
        }
    }

    int page() {
        int paged = 0;
        for (int bits : rounds()) {
            paged += Integer.bitCount(bits);
            if ((bits >> now.at & 1) == 1) break;
        }
        change();
        now.paged += paged;
        register(now);
        return paged;
    }

    int handset(int what) {
        switch (what) {
            case 0: return now.at;
            case 1: return now.home;
            case 2: return now.moves;
            case 3: return now.ticks;
            case 4: return now.updates;
            case 5: return now.paged;
            case 6: return now.paged * now.c + now.updates * now.u;
            default: return BAD;
        }
    }

    int round(int k) {
        if (k < -1) return BAD;
        List<Integer> all = rounds();
        return k == -1 ? all.size() : k >= all.size() ? NONE : all.get(k);
    }

    /** Gauss on: CHANCE of j less the sum over i of CHANCE of i times what leads to j is 0; all together 1. */
    private Fraction[] chances() {
        if (chances != null && Arrays.equals(chancesOf, now.stay)) return chances;
        int n = now.n;
        Fraction[][] m = new Fraction[n][n + 1];
        for (int j = 0; j < n; j++) {
            for (int i = 0; i < n; i++) {
                int lead = i == j ? now.stay[i] : now.w[i][j];
                m[j][i] = Fraction.of(i == j ? 1 : 0, 1).minus(Fraction.of(lead, sum(now, i)));
            }
            m[j][n] = Fraction.ZERO;
        }
        Arrays.fill(m[n - 1], Fraction.ONE);
        for (int p = 0; p < n; p++) {
            int q = p;
            while (m[q][p].isZero()) q++;
            Fraction[] swap = m[p]; m[p] = m[q]; m[q] = swap;
            for (int i = 0; i < n; i++) {
                if (i == p) continue;
                Fraction f = m[i][p].by(m[p][p]);
                for (int k = p; k <= n; k++) m[i][k] = m[i][k].minus(f.times(m[p][k]));
            }
        }
        chances = new Fraction[n];
        for (int i = 0; i < n; i++) chances[i] = m[i][n].by(m[i][i]);
        chancesOf = now.stay.clone();
        bestAreas = null;
        return chances;
    }

    long chance(int c, int part) {
        if (!isCell(c) || part != 0 && part != 1) return BAD;
        return chances()[c].part(part);
    }

    private Fraction leads(int[] area) {
        Fraction f = Fraction.ZERO;
        for (int i = 0; i < now.n; i++)
            for (int j = 0; j < now.n; j++)
                if (i != j && (area == null || area[i] != area[j]))
                    f = f.plus(chances()[i].times(Fraction.of(now.w[i][j], sum(now, i))));
        return f;
    }

    private Fraction expense(int[] area) {
        Fraction f = Fraction.ZERO;
        for (int c = 0; c < now.n; c++) f = f.plus(chances()[c].times(Fraction.of(crowd(area, now.n, c), 1)));
        return Fraction.of(now.u, 1).times(leads(area)).plus(Fraction.of((long) now.c * now.q, 100).times(f));
    }

    long mean(int what, int part) {
        if (what < 0 || what > 3 || part < 0 || part > 1) return BAD;
        if (what == 0) return leads(now.area).part(part);
        if (what == 1) return leads(null).part(part);
        if (what == 3) return expense(now.area).part(part);
        if (now.kind == 3) return NONE;
        if (now.kind == 0) return leads(now.area).part(part);
        Fraction v = Fraction.of(now.value, 1);
        return (now.kind == 1 ? leads(null) : Fraction.ONE).by(v).part(part);
    }

    private void search() {
        chances();
        if (bestAreas != null) return;
        bestExpense = null;
        tryFrom(new int[6], 1);
    }

    private void tryFrom(int[] area, int c) {
        if (c == now.n) {
            Fraction e = expense(area);
            if (bestExpense == null || e.compareTo(bestExpense) < 0) {
                bestExpense = e;
                bestAreas = area.clone();
            }
            return;
        }
        int top = 0;
        for (int d = 0; d < c; d++) top = Math.max(top, area[d]);
        for (int k = 0; k <= top + 1; k++) {
            area[c] = k;
            tryFrom(area, c + 1);
        }
        area[c] = 0;
    }

    int best(int c) {
        if (!isCell(c)) return BAD;
        search();
        return bestAreas[c];
    }

    long least(int part) {
        if (part < 0 || part > 1) return BAD;
        search();
        return bestExpense.part(part);
    }

    int walk(int z, int n, int what) {
        if (z < 0 || z > 9999 || n < 1 || n > 60 || what < 0 || what > 2) return BAD;
        Told t = now.copy();
        int updates = 0, moves = 0;
        for (int k = 0; k < n; k++) {
            long x = 7919L * z + 6151L * k + 1;
            // one lot for each unit of STAY and WEIGHT, in the order told
            List<Integer> lots = new ArrayList<>();
            for (int i = 0; i < t.stay[t.at]; i++) lots.add(t.at);
            for (int c = 0; c < t.n; c++) for (int i = 0; i < t.w[t.at][c]; i++) lots.add(c);
            int to = lots.get((int) (x * x % 65521 % lots.size()));
            if (to != t.at) moves++;
            if (goes(t, to)) {
                updates++;
                register(t);
            }
        }
        return what == 0 ? t.at : what == 1 ? updates : moves;
    }

    int count(int what) {
        int[] all = {now.n, now.joins, now.kind, now.value, now.r, now.c, now.u, now.q, past.size(), text.length()};
        return what < 0 || what >= all.length ? BAD : all[what];
    }
}
