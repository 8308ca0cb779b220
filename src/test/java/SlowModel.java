import java.math.BigInteger;
import java.util.ArrayList;
import java.util.Arrays;
import java.util.List;

/**
 * The document once more, as slowly and plainly as can be: every answer is found anew from the list of
 * what was told, fractions are of big integers, chances are sums over every outcome.
 */
final class SlowModel {
    static final int NONE = -1, BAD = -2, NOT = -3, FULL = -4;
    private static final long LEAST = Long.MIN_VALUE;

    private int n = 10, asOf = 999, pass = 50, limit = 50, finding = 0;
    private final List<Integer> key = new ArrayList<>();
    private final List<int[]> pupils = new ArrayList<>();
    private final List<int[]> told = new ArrayList<>();
    private final int[] forms = new int[4];
    private final int[][] sheets = new int[4][];

    int questions(int m) {
        if (m < 1 || m > 12) return BAD;
        int was = n;
        n = m;
        return was;
    }

    int type(int b) {
        if (b < 0 || b > 255) return BAD;
        if (key.size() == 12) return FULL;
        key.add(b);
        return key.size();
    }

    int wipe() {
        int was = key.size();
        key.clear();
        return was;
    }

    int fault() {
        for (int place = 0; ; place++) {
            boolean ended = place == key.size();
            if (place == n) return ended ? NONE : place;
            if (ended || "12345?".indexOf((char) (int) key.get(place)) < 0) return place;
        }
    }

    private int right(int q) {
        return fault() != NONE || key.get(q) == '?' ? 0 : key.get(q) - '0';
    }

    private boolean noQuestion(int q) {
        return q < 0 || q >= n;
    }

    private boolean noPupil(int p) {
        return p < 0 || p >= pupils.size();
    }

    private boolean noPair(int a, int b) {
        return noPupil(a) || noPupil(b) || a == b;
    }

    private boolean noSheet(int s) {
        return s < 0 || s > 3;
    }

    private int found(int number) {
        finding = number;
        return -10 - number;
    }

    int key(int q) {
        return noQuestion(q) ? BAD : right(q);
    }

    int set(int what, int v) {
        int[] most = {999, 100, 1000};
        if (what < 0 || what > 2 || v < 0 || v > most[what]) return -5;
        int was = what == 0 ? asOf : what == 1 ? pass : limit;
        if (what == 0) asOf = v;
        if (what == 1) pass = v;
        if (what == 2) limit = v;
        return was;
    }

    int pupil(int row, int place) {
        if (row < 0 || row > 3 || place < 0 || place > 4) return BAD;
        for (int[] seat : pupils) if (seat[0] == row && seat[1] == place) return BAD;
        if (pupils.size() == 10) return FULL;
        pupils.add(new int[] {row, place});
        return pupils.size() - 1;
    }

    private boolean noTime(int time) {
        return time < 0 || time > 999 || !told.isEmpty() && time < told.get(told.size() - 1)[3];
    }

    int answer(int p, int q, int v, int time) {
        if (noPupil(p) || noQuestion(q) || v < 0 || v > 5 || noTime(time)) return BAD;
        if (told.size() == 150) return FULL;
        told.add(new int[] {p, q, v, time});
        return told.size();
    }

    int read(int s, int p, int time) {
        if (noSheet(s) || noPupil(p) || noTime(time)) return BAD;
        if (sheets[s] == null) return found(1);
        for (int i = 0; i < sheets[s].length; i++) if (answer(p, i, sheets[s][i], time) < 0) return i;
        return sheets[s].length;
    }

    private int chose(int p, int q) {
        int v = 0;
        for (int[] t : told) if (t[0] == p && t[1] == q && t[3] <= asOf) v = t[2];
        return v;
    }

    int said(int p, int q) {
        return noPupil(p) || noQuestion(q) ? BAD : chose(p, q);
    }

    private boolean near(int[] a, int[] b) {
        int rows = a[0] - b[0], places = a[1] - b[1];
        return rows * rows <= 1 && places * places <= 1;
    }

    int beside(int a, int b) {
        if (noPair(a, b)) return BAD;
        return near(pupils.get(a), pupils.get(b)) ? 1 : 0;
    }

    private boolean isRight(int p, int q) {
        return right(q) > 0 && chose(p, q) == right(q);
    }

    private boolean isWrong(int p, int q) {
        return right(q) > 0 && chose(p, q) > 0 && chose(p, q) != right(q);
    }

    /** Right answers of a pupil to the questions that are not struck in these bits. */
    private int rights(int p, int struck) {
        int m = 0;
        for (int q = 0; q < n; q++) if ((struck & 1 << q) == 0 && isRight(p, q)) m++;
        return m;
    }

    private int rank(int p, int struck) {
        int r = 1;
        for (int o = 0; o < pupils.size(); o++) if (rights(o, struck) > rights(p, struck)) r++;
        return r;
    }

    private boolean passes(int p, int struck) {
        int open = 0;
        for (int q = 0; q < n; q++) if ((struck & 1 << q) == 0 && right(q) > 0) open++;
        return rights(p, struck) * 100 >= pass * open;
    }

    int mark(int p, int what) {
        if (noPupil(p) || what < 0 || what > 3) return BAD;
        if (what == 0) return rights(p, 0);
        if (what == 1) return rank(p, 0);
        if (what == 2) return passes(p, 0) ? 1 : 0;
        int w = 0;
        for (int q = 0; q < n; q++) if (isWrong(p, q)) w++;
        return w;
    }

    private List<Integer> both(int a, int b) {
        List<Integer> list = new ArrayList<>();
        for (int q = 0; q < n; q++) if (isWrong(a, q) && isWrong(b, q)) list.add(q);
        return list;
    }

    private int same(int a, int b) {
        int s = 0;
        for (int q : both(a, b)) if (chose(a, q) == chose(b, q)) s++;
        return s;
    }

    /** Above and below, or null when there are too many. */
    private BigInteger[] chanceOf(int a, int b) {
        List<Integer> qs = both(a, b);
        if (qs.size() > 7) return null;
        BigInteger above = BigInteger.ZERO, below = BigInteger.ONE;
        long[] alike = new long[qs.size()], all = new long[qs.size()];
        for (int i = 0; i < qs.size(); i++) {
            int q = qs.get(i), wrongThere = 0;
            for (int p = 0; p < pupils.size(); p++) if (p != a && p != b && isWrong(p, q)) wrongThere++;
            for (int c = 1; c <= 5; c++) {
                if (c == right(q)) continue;
                int chosen = 0;
                for (int p = 0; p < pupils.size(); p++) if (p != a && p != b && chose(p, q) == c) chosen++;
                alike[i] += (1L + chosen) * (1L + chosen);
            }
            all[i] = (4L + wrongThere) * (4L + wrongThere);
            below = below.multiply(BigInteger.valueOf(all[i]));
        }
        for (int outcome = 0; outcome < 1 << qs.size(); outcome++) {
            if (Integer.bitCount(outcome) < same(a, b)) continue;
            BigInteger ways = BigInteger.ONE;
            for (int i = 0; i < qs.size(); i++) {
                boolean like = (outcome & 1 << i) != 0;
                ways = ways.multiply(BigInteger.valueOf(like ? alike[i] : all[i] - alike[i]));
            }
            above = above.add(ways);
        }
        return new BigInteger[] {above, below};
    }

    private long told(BigInteger above, BigInteger below, int what) {
        BigInteger d = above.gcd(below);
        return (what == 0 ? above : below).divide(d).longValueExact();
    }

    private long told(long above, long below, int what) {
        return told(BigInteger.valueOf(above), BigInteger.valueOf(below), what);
    }

    private boolean odd(int a, int b) {
        BigInteger[] c = chanceOf(a, b);
        return c != null && same(a, b) > 0
                && c[0].multiply(BigInteger.valueOf(1000)).compareTo(c[1].multiply(BigInteger.valueOf(limit))) <= 0;
    }

    int shared(int a, int b, int what) {
        if (noPair(a, b) || what < 0 || what > 2) return BAD;
        return what == 0 ? same(a, b) : what == 1 ? both(a, b).size() : odd(a, b) ? 1 : 0;
    }

    long chance(int a, int b, int what) {
        if (noPair(a, b) || what < 0 || what > 1) return LEAST - BAD;
        BigInteger[] c = chanceOf(a, b);
        return c == null ? LEAST - FULL : told(c[0], c[1], what);
    }

    private int besideWith(int[] order, int[][] common) {
        int sum = 0;
        for (int i = 0; i < order.length; i++)
            for (int j = 0; j < i; j++)
                if (near(pupils.get(i), pupils.get(j))) sum += common[order[i]][order[j]];
        return sum;
    }

    private int reached(int[] order, int at, int goal, int[][] common) {
        if (at == order.length) return besideWith(order, common) >= goal ? 1 : 0;
        int sum = 0;
        for (int i = at; i < order.length; i++) {
            swap(order, at, i);
            sum += reached(order, at + 1, goal, common);
            swap(order, at, i);
        }
        return sum;
    }

    private static void swap(int[] row, int i, int j) {
        int v = row[i];
        row[i] = row[j];
        row[j] = v;
    }

    int seats(int what) {
        if (what != 0 && what != 1) return BAD;
        int m = pupils.size();
        int[] order = new int[m];
        int[][] common = new int[m][m];
        for (int a = 0; a < m; a++) {
            order[a] = a;
            for (int b = 0; b < m; b++) if (a != b) common[a][b] = same(a, b);
        }
        int now = besideWith(order, common);
        if (what == 0) return now;
        if (m > 7) return FULL;
        long all = 1;
        for (int i = 2; i <= m; i++) all *= i;
        return (int) (reached(order, 0, now, common) * 1000000L / all);
    }

    private boolean linked(int a, int b) {
        return a != b && near(pupils.get(a), pupils.get(b)) && odd(a, b);
    }

    int sources() {
        int m = pupils.size();
        boolean[][] link = new boolean[m][m];
        for (int a = 0; a < m; a++) for (int b = 0; b < m; b++) link[a][b] = linked(a, b);
        for (int many = 0; many <= m; many++) {
            for (int bits = 0; bits < 1 << m; bits++) {
                if (Integer.bitCount(bits) != many) continue;
                boolean all = true;
                for (int a = 0; a < m; a++)
                    for (int b = 0; b < m; b++)
                        if (link[a][b] && (bits & (1 << a | 1 << b)) == 0) all = false;
                if (all) return bits;
            }
        }
        throw new IllegalStateException("all of them are always enough");
    }

    private int gave(int a, int b) {
        if (rights(a, 0) != rights(b, 0)) return rights(a, 0) > rights(b, 0) ? a : b;
        if (rubbed(a, 0) != rubbed(b, 0)) return rubbed(a, 0) < rubbed(b, 0) ? a : b;
        return NONE;
    }

    int from(int a, int b) {
        if (noPair(a, b)) return BAD;
        return linked(a, b) ? gave(a, b) : NOT;
    }

    private int chainFrom(int a, boolean[][] gives) {
        int longest = 0;
        for (int b = 0; b < gives.length; b++) if (gives[a][b]) longest = Math.max(longest, chainFrom(b, gives));
        return 1 + longest;
    }

    int chain() {
        int m = pupils.size(), longest = 0;
        boolean[][] gives = new boolean[m][m];
        for (int a = 0; a < m; a++) for (int b = 0; b < m; b++) gives[a][b] = linked(a, b) && gave(a, b) == a;
        for (int a = 0; a < m; a++) longest = Math.max(longest, chainFrom(a, gives));
        return longest;
    }

    int rubbed(int p, int what) {
        if (noPupil(p) || what < 0 || what > 2) return BAD;
        int[] there = new int[12];
        int times = 0;
        for (int[] t : told) {
            if (t[0] != p || t[3] > asOf || t[1] >= n) continue;
            int old = there[t[1]], now = t[2], r = right(t[1]);
            there[t[1]] = now;
            if (old == 0 || old == now) continue;
            boolean oldWrong = r > 0 && old != r, oldRight = r > 0 && old == r;
            boolean nowWrong = r > 0 && now > 0 && now != r, nowRight = r > 0 && now == r;
            if (what == 0 || what == 1 && oldWrong && nowRight || what == 2 && oldRight && nowWrong) times++;
        }
        return times;
    }

    private int rubbedBy(int bits, int what) {
        int sum = 0;
        for (int p = 0; p < pupils.size(); p++) if ((bits & 1 << p) != 0) sum += rubbed(p, what);
        return sum;
    }

    private static BigInteger choose(int m, int k) {
        if (k < 0 || k > m) return BigInteger.ZERO;
        BigInteger c = BigInteger.ONE;
        for (int i = 0; i < k; i++) c = c.multiply(BigInteger.valueOf(m - i)).divide(BigInteger.valueOf(i + 1));
        return c;
    }

    long gains(int bits, int what) {
        if (bits < 0 || bits > 1023 || what < 0 || what > 1) return LEAST - BAD;
        int all = rubbedBy(1023, 0), good = rubbedBy(1023, 1), drawn = rubbedBy(bits, 0), had = rubbedBy(bits, 1);
        if (all > 60) return LEAST - FULL;
        BigInteger above = BigInteger.ZERO;
        for (int k = had; k <= drawn; k++) above = above.add(choose(good, k).multiply(choose(all - good, drawn - k)));
        return told(above, choose(all, drawn), what);
    }

    /** Of some (bits), or of all others: how many there are, how many have the question right. */
    private int[] group(int bits, boolean others, int q) {
        int[] g = new int[2];
        for (int p = 0; p < pupils.size(); p++) {
            if (((bits & 1 << p) == 0) != others) continue;
            g[0]++;
            if (isRight(p, q)) g[1]++;
        }
        return g;
    }

    int known(int bits, int p) {
        if (bits < 1 || bits > 1023 || group(bits, false, 0)[0] == 0 || p < 0 || p > 100) return BAD;
        int result = 0;
        for (int q = 0; q < n; q++) {
            int[] some = group(bits, false, q), others = group(bits, true, q);
            if (right(q) > 0 && some[0] == some[1] && others[1] * 100 <= p * others[0]) result |= 1 << q;
        }
        return result;
    }

    long lead(int q, int bits, int what) {
        if (noQuestion(q) || bits < 0 || bits > 1023 || what < 0 || what > 1) return LEAST - BAD;
        int[] some = group(bits, false, q), others = group(bits, true, q);
        if (some[0] == 0 || others[0] == 0 || right(q) == 0) return LEAST - NOT;
        return told((long) some[1] * others[0] - (long) others[1] * some[0], (long) some[0] * others[0], what);
    }

    /** How many chose it, and their rests together. */
    private int[] choosers(int q, int choice) {
        int[] c = new int[2];
        for (int p = 0; p < pupils.size(); p++) {
            if (chose(p, q) != choice) continue;
            c[0]++;
            c[1] += rights(p, 1 << q);
        }
        return c;
    }

    long rest(int q, int choice, int what) {
        if (noQuestion(q) || choice < 1 || choice > 5 || what < 0 || what > 1) return LEAST - BAD;
        int[] c = choosers(q, choice);
        return c[0] == 0 ? LEAST - NOT : told(c[1], c[0], what);
    }

    int should(int q) {
        if (noQuestion(q)) return BAD;
        Integer[] order = {1, 2, 3, 4, 5};
        Arrays.sort(order, (c, d) -> {
            int[] x = choosers(q, c), y = choosers(q, d);
            if (x[0] == 0 || y[0] == 0) return Integer.compare(y[0], x[0]);
            int byMean = Integer.compare(y[1] * x[0], x[1] * y[0]);
            return byMean != 0 ? byMean : Integer.compare(y[0], x[0]);
        });
        return choosers(q, order[0])[0] == 0 ? NONE : order[0];
    }

    int badly() {
        int bits = 0;
        for (int q = 0; q < n; q++) if (right(q) > 0 && should(q) > 0 && should(q) != right(q)) bits |= 1 << q;
        return bits;
    }

    int without(int q, int what) {
        if (noQuestion(q) || what < 0 || what > 1) return BAD;
        int others = 0;
        for (int p = 0; p < pupils.size(); p++)
            if (what == 0 ? rank(p, 0) != rank(p, 1 << q) : passes(p, 0) != passes(p, 1 << q)) others++;
        return others;
    }

    long hard(int q, int what) {
        if (noQuestion(q) || what < 0 || what > 1) return LEAST - BAD;
        if (pupils.isEmpty() || right(q) == 0) return LEAST - NOT;
        int[] all = group(1023, false, q);
        return told(all[1], all[0], what);
    }

    long parts(int q, int what) {
        if (noQuestion(q) || what < 0 || what > 1) return LEAST - BAD;
        int m = pupils.size(), half = m / 2;
        if (m < 2 || right(q) == 0) return LEAST - NOT;
        List<Integer> order = new ArrayList<>();
        for (int p = 0; p < m; p++) order.add(p);
        order.sort((a, b) -> rights(b, 1 << q) - rights(a, 1 << q));
        int difference = 0;
        for (int p : order.subList(0, half)) if (isRight(p, q)) difference++;
        for (int p : order.subList(m - half, m)) if (isRight(p, q)) difference--;
        return told(difference, half, what);
    }

    int sheet(int s, int form, int size) {
        if (noSheet(s) || form < 0 || form > 2 || size > 48) return BAD;
        if (size < 0) return found(5);
        forms[s] = form;
        sheets[s] = new int[size];
        return size;
    }

    int lose(int s) {
        if (noSheet(s)) return BAD;
        if (sheets[s] == null) return found(1);
        int size = sheets[s].length;
        sheets[s] = null;
        return size;
    }

    private int wrongItem(int s, int form, int i) {
        if (sheets[s] == null) return 1;
        if (forms[s] != form) return 3;
        return i < 0 || i >= sheets[s].length ? 2 : 0;
    }

    private static int cut(int form, int v) {
        int spare = form == 0 ? 24 : form == 1 ? 16 : 0;
        return v << spare >> spare;
    }

    int put(int s, int form, int i, int v) {
        if (noSheet(s) || form < 0 || form > 2) return BAD;
        int wrong = wrongItem(s, form, i);
        if (wrong != 0) return found(wrong);
        sheets[s][i] = cut(form, v);
        return 1;
    }

    int get(int s, int form, int i) {
        if (noSheet(s) || form < 0 || form > 2) return Integer.MIN_VALUE;
        int wrong = wrongItem(s, form, i);
        if (wrong != 0) {
            found(wrong);
            return Integer.MIN_VALUE;
        }
        return sheets[s][i];
    }

    int copy(int s, int i, int t, int j, int many) {
        if (noSheet(s) || noSheet(t)) return BAD;
        if (sheets[s] == null || sheets[t] == null) return found(1);
        if (forms[s] != forms[t]) return found(4);
        if (i < 0 || j < 0 || many < 0) return found(2);
        if ((long) i + many > sheets[s].length || (long) j + many > sheets[t].length) return found(2);
        int[] were = sheets[s].clone();
        for (int k = 0; k < many; k++) sheets[t][j + k] = were[i + k];
        return 1;
    }

    int write(int p, int s) {
        if (noPupil(p) || noSheet(s)) return BAD;
        if (sheets[s] == null) return found(1);
        int many = 0;
        for (; many < n && many < sheets[s].length; many++) sheets[s][many] = cut(forms[s], chose(p, many));
        return many;
    }

    int count(int what) {
        int sum = 0;
        switch (what) {
            case 0: return n;
            case 1:
                for (int q = 0; q < n; q++) if (right(q) > 0) sum++;
                return sum;
            case 2: return pupils.size();
            case 3: return told.size();
            case 4:
                for (int p = 0; p < pupils.size(); p++) for (int q = 0; q < n; q++) if (chose(p, q) > 0) sum++;
                return sum;
            case 5:
                for (int p = 0; p < pupils.size(); p++) sum += rights(p, 0);
                return sum;
            case 6:
                for (int a = 0; a < pupils.size(); a++) for (int b = 0; b < a; b++) if (odd(a, b)) sum++;
                return sum;
            case 7: return rubbedBy(1023, 0);
            case 8: return finding;
            default: return BAD;
        }
    }

    long digest() {
        List<Long> all = new ArrayList<>();
        for (int what = 0; what < 8; what++) all.add((long) count(what));
        all.add((long) fault());
        for (int p = 0; p < pupils.size(); p++) {
            for (int what = 0; what < 4; what++) all.add((long) mark(p, what));
            for (int what = 0; what < 3; what++) all.add((long) rubbed(p, what));
        }
        all.addAll(List.of((long) seats(0), (long) sources(), (long) chain(), gains(1, 0), gains(1, 1)));
        for (int q = 0; q < n; q++) {
            all.addAll(List.of((long) key(q), (long) should(q), (long) without(q, 0), (long) without(q, 1)));
            all.addAll(List.of(hard(q, 0), hard(q, 1), parts(q, 0), parts(q, 1)));
        }
        all.add((long) badly());
        long h = 17;
        for (long v : all) h = 31 * h + v;
        return h;
    }
}
