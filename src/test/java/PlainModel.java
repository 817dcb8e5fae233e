import java.util.ArrayList;
import java.util.Arrays;
import java.util.List;
import java.util.regex.Matcher;
import java.util.regex.Pattern;

/** The document once more, slow and plain: every way played from its beginning, every row of gifts looked at. */
final class PlainModel {
    static final int BAD = -1, NO = -2, FULL = -3, NONE = -4;
    private static final Pattern ITEM = Pattern.compile("([a-z])(\\d{1,3}(?:,\\d{1,3})*);");

    static final class Sort {
        int n, kind, purse, first, gap, told;
        final List<int[]> worths = new ArrayList<>();

        int greatest() {
            return worths.stream().mapToInt(w -> w[0]).max().orElse(0);
        }
    }

    static final class Told {
        int bar = 20, need = 0, last = 9, cost = 20, penny = 0, extra = 0, extraDay = 0, parts = 0;
        int secondBar = 0, share = 0;
        final List<Sort> sorts = new ArrayList<>();
        final List<Integer> sortOf = new ArrayList<>();
        final List<Integer> day = new ArrayList<>();
    }

    /** What may be otherwise than told, for a trial. */
    static final class Terms {
        int bar, extra, shown, last, rich = 0, richDay = -1;
    }

    static final class Play {
        int[] gifts, gifts2;
        int total, who, total2;
        boolean built, built2;
        int[] has;
        int sumOfWorths;
    }

    private final StringBuilder text = new StringBuilder();
    private Told told;
    private int shown = 0;
    private int[] row = new int[8];
    private final List<int[]> kept = new ArrayList<>();
    private int faultAt;

    PlainModel() {
        told = parse("g1,1,20,0,0;w0,20,10;");
    }

    // ---- the text

    private Told parse(String s) {
        Told t = new Told();
        int at = 0;
        Matcher m = ITEM.matcher(s);
        while (at < s.length()) {
            m.region(at, s.length());
            if (!m.lookingAt() || !item(t, m.group(1).charAt(0),
                    Arrays.stream(m.group(2).split(",")).mapToInt(Integer::parseInt).toArray())) {
                faultAt = at;
                return null;
            }
            at = m.end();
        }
        for (Sort sort : t.sorts) {
            if (sort.worths.stream().mapToInt(w -> w[1]).sum() != 10) {
                faultAt = s.length();
                return null;
            }
        }
        faultAt = NONE;
        return t;
    }

    private static boolean in(int x, int a, int b) {
        return a <= x && x <= b;
    }

    private static boolean item(Told t, char letter, int[] k) {
        String letters = "bdcpeogwts";
        int[] numbers = {2, 1, 1, 1, 2, 1, 5, 3, 2, 2};
        int which = letters.indexOf(letter);
        if (which < 0 || k.length != numbers[which]) return false;
        if (letter == 'b') {
            t.bar = k[0];
            t.need = k[1];
            return in(k[0], 1, 60) && in(k[1], 0, 8);
        }
        if (letter == 'd') return in(t.last = k[0], 0, 30);
        if (letter == 'c') return in(t.cost = k[0], 0, 199);
        if (letter == 'p') return in(t.penny = k[0], 0, 9);
        if (letter == 'e') return in(t.extra = k[0], 0, 9) & in(t.extraDay = k[1], 0, 30);
        if (letter == 'o') return in(t.parts = k[0], 0, 1);
        if (letter == 's') return in(t.secondBar = k[0], 1, 60) & in(t.share = k[1], 0, 99);
        if (letter == 'g') {
            if (t.sorts.size() == 6 || t.sortOf.size() + k[0] > 8) return false;
            if (!in(k[0], 1, 8) || !in(k[1], 0, 5) || !in(k[2], 0, 30) || !in(k[3], 0, 30) || !in(k[4], 0, 9)) return false;
            Sort s = new Sort();
            s.n = k[0];
            s.kind = k[1];
            s.purse = k[2];
            s.first = k[3];
            s.gap = k[4];
            for (int j = 0; j < s.n; j++) {
                t.sortOf.add(t.sorts.size());
                t.day.add(s.first + j * s.gap);
            }
            t.sorts.add(s);
            return true;
        }
        if (k[0] >= t.sorts.size()) return false;
        Sort s = t.sorts.get(k[0]);
        if (letter == 't') return in(s.told = k[1], 0, 30);
        if (s.worths.size() == 3) return false;
        s.worths.add(new int[] {k[1], k[2]});
        return in(k[1], 0, 30) && in(k[2], 1, 10);
    }

    // ---- playing

    private Sort sort(int i) {
        return told.sorts.get(told.sortOf.get(i));
    }

    private int dayOf(int i, int last) {
        if (sort(i).kind == 4) return last;
        return told.day.get(i) <= last ? told.day.get(i) : NONE;
    }

    private List<Integer> order(int last) {
        List<Integer> come = new ArrayList<>();
        for (int i = 0; i < told.sortOf.size(); i++) if (dayOf(i, last) != NONE) come.add(i);
        come.sort((a, b) -> dayOf(a, last) != dayOf(b, last) ? dayOf(a, last) - dayOf(b, last) : a - b);
        return come;
    }

    private Terms terms() {
        Terms t = new Terms();
        t.bar = told.bar;
        t.extra = told.extra;
        t.shown = shown;
        t.last = told.last;
        return t;
    }

    private int lack(int bar, int given, int how) {
        int seen = how == 1 ? 0 : how == 2 ? given - given % 10 : given;
        return bar > seen ? bar - seen : 0;
    }

    private int gift(Terms t, int i, int w, int given, int r) {
        Sort s = sort(i);
        int m = Math.min(w, s.purse);
        int l = lack(t.bar, given, t.shown);
        if (s.kind == 5) return Math.min(s.told, s.purse);
        if (s.kind == 3 && dayOf(i, t.last) <= told.extraDay) return Math.min(Math.min(m + t.extra, s.purse), l);
        return byKind(s.kind, m, l, r);
    }

    private int byKind(int kind, int m, int l, int r) {
        if (kind == 0) return r == 1 && l <= m ? l : 0;
        if (kind == 4) return l <= m ? l : 0;
        if (kind == 2) return m / 2 + m % 2;
        return Math.min(m, (int) Math.ceil((double) l / r));
    }

    private Play play(Terms t, int[] worths) {
        Play p = new Play();
        int n = told.sortOf.size();
        p.gifts = new int[n];
        p.gifts2 = new int[n];
        p.has = new int[n];
        List<Integer> order = order(t.last);
        boolean added = t.richDay < 0;
        for (int k = 0; k < order.size(); k++) {
            int i = order.get(k);
            if (!added && dayOf(i, t.last) > t.richDay) {
                p.total += Math.min(t.rich, p.total);
                added = true;
            }
            int r = order.size() - k;
            p.gifts[i] = gift(t, i, worths[i], p.total, r);
            p.sumOfWorths += worths[i];
            if (told.secondBar > 0) {
                int kind = sort(i).kind == 5 || sort(i).kind == 3 ? 1 : sort(i).kind;
                int m2 = Math.min(worths[i] * told.share / 100, sort(i).purse - p.gifts[i]);
                p.gifts2[i] = byKind(kind, m2, lack(told.secondBar, p.total2, t.shown), r);
                p.total2 += p.gifts2[i];
            }
            p.total += p.gifts[i];
            if (p.gifts[i] >= 1) p.who++;
        }
        if (!added) p.total += Math.min(t.rich, p.total);
        p.built = p.total >= t.bar && p.who >= told.need;
        p.built2 = told.secondBar > 0 && p.total2 >= told.secondBar;
        for (int i : order) {
            int g = p.gifts[i];
            if (!p.built) {
                p.has[i] = g >= 1 ? told.penny : 0;
                continue;
            }
            p.has[i] = worths[i] - g;
            if (g >= 1 && dayOf(i, t.last) <= told.extraDay) p.has[i] += t.extra;
            if (told.parts == 1) p.has[i] += g * (p.total - t.bar) / p.total;
        }
        return p;
    }

    /** All ways: what they count, in the order built, needless, missed, second, both, gifts and what each has. */
    private long[] all(Terms t) {
        long[] sums = new long[5 + 16];
        ways(t, order(t.last), 0, new int[8], 1, sums);
        return sums;
    }

    private void ways(Terms t, List<Integer> order, int k, int[] worths, long weight, long[] sums) {
        if (k < order.size()) {
            int i = order.get(k);
            for (int[] w : sort(i).worths) {
                worths[i] = w[0];
                ways(t, order, k + 1, worths, weight * w[1], sums);
            }
            return;
        }
        Play p = play(t, worths);
        boolean should = p.sumOfWorths >= told.cost;
        if (p.built) sums[0] += weight;
        if (p.built && !should) sums[1] += weight;
        if (!p.built && should) sums[2] += weight;
        if (p.built2) sums[3] += weight;
        if (p.built && p.built2) sums[4] += weight;
        for (int i : order) {
            sums[5 + i] += weight * p.gifts[i];
            sums[13 + i] += weight * p.has[i];
        }
    }

    private long ten(int n) {
        return n == 0 ? 1 : 10 * ten(n - 1);
    }

    // ---- rests

    private int most(int i) {
        return Math.min(sort(i).greatest(), sort(i).purse);
    }

    /** How many rows of gifts there are to look at. */
    long rows() {
        long rows = 1;
        for (int i : order(told.last)) rows *= most(i) + 1;
        return rows;
    }

    private boolean builtBy(int[] g) {
        int sum = 0, who = 0;
        for (int x : g) {
            sum += x;
            if (x > 0) who++;
        }
        return sum >= told.bar && who >= told.need;
    }

    private int hasAtRest(int i, int[] g) {
        return builtBy(g) ? sort(i).greatest() - g[i] : g[i] > 0 ? told.penny : 0;
    }

    private boolean failsAtRest(int[] g, List<Integer> who) {
        if (Arrays.stream(g).sum() >= told.bar) return false;
        for (int i : who) {
            int was = g[i];
            int has = hasAtRest(i, g);
            boolean more = false;
            for (int x = 0; x <= most(i); x++) {
                g[i] = x;
                if (hasAtRest(i, g) > has) more = true;
            }
            g[i] = was;
            if (more) return false;
        }
        return true;
    }

    private boolean justByIt(int[] g) {
        return Arrays.stream(g).sum() == told.bar && builtBy(g);
    }

    /** Looks at every row of gifts, the lower gifts ahead; first is filled with the first just one. */
    private long look(int i, int[] g, List<Integer> who, boolean just, int[] first) {
        if (i == told.sortOf.size()) {
            if (just && !justByIt(g) || !just && !failsAtRest(g, who)) return 0;
            if (first != null && first[8] == 0) {
                System.arraycopy(g, 0, first, 0, 8);
                first[8] = 1;
            }
            return 1;
        }
        long count = 0;
        for (int x = 0; x <= (who.contains(i) ? most(i) : 0); x++) {
            g[i] = x;
            count += look(i + 1, g, who, just, first);
        }
        g[i] = 0;
        return count;
    }

    // ---- the face

    int write(int n, long v) {
        if (!in(n, 1, 8)) return BAD;
        if (text.length() + n > 300) return FULL;
        for (int k = n - 1; k >= 0; k--) text.append((char) ((v >> (8 * k)) & 0xff));
        return text.length();
    }

    int wipe() {
        int was = text.length();
        text.setLength(0);
        return was;
    }

    int fault() {
        parse(text.toString());
        return faultAt;
    }

    int lay() {
        Told t = parse(text.toString());
        if (t == null || t.sorts.isEmpty()) return NO;
        told = t;
        row = new int[8];
        shown = 0;
        kept.clear();
        return t.sortOf.size();
    }

    private boolean isGiver(int i) {
        return i >= 0 && i < told.sortOf.size();
    }

    private boolean comes(int i) {
        return dayOf(i, told.last) != NONE;
    }

    int giver(int i, int what) {
        if (!isGiver(i) || !in(what, 0, 3)) return BAD;
        if (what == 0) return told.sortOf.get(i);
        if (what == 1) return sort(i).kind;
        if (!comes(i)) return NONE;
        return what == 2 ? dayOf(i, told.last) : order(told.last).indexOf(i);
    }

    int show(int how) {
        if (!in(how, 0, 2)) return BAD;
        int was = shown;
        shown = how;
        return was;
    }

    long odds(int what) {
        if (!in(what, 0, 2)) return BAD;
        long a = all(terms())[0];
        long b = ten(order(told.last).size());
        if (what == 0) return a;
        long g = java.math.BigInteger.valueOf(a).gcd(java.math.BigInteger.valueOf(b)).longValue();
        return what == 1 ? a / g : b / g;
    }

    long mean(int i, int what) {
        if (!isGiver(i) || !in(what, 0, 1)) return Long.MIN_VALUE;
        if (!comes(i)) return NONE;
        return all(terms())[(what == 0 ? 5 : 13) + i];
    }

    long wrong(int what) {
        return in(what, 0, 1) ? all(terms())[1 + what] : BAD;
    }

    int row(int i, int gift) {
        if (!isGiver(i) || !in(gift, 0, 30)) return BAD;
        int was = row[i];
        row[i] = gift;
        return was;
    }

    int judge() {
        List<Integer> order = order(told.last);
        int given = 0;
        for (int k = 0; k < order.size(); k++) {
            int i = order.get(k);
            if (gift(terms(), i, sort(i).greatest(), given, order.size() - k) != row[i]) return i;
            given += row[i];
        }
        return NONE;
    }

    int made(int what) {
        if (!in(what, 0, 1)) return BAD;
        int[] g = new int[8];
        for (int i : order(told.last)) g[i] = row[i];
        return what == 0 ? Arrays.stream(g).sum() : builtBy(g) ? 1 : 0;
    }

    long just(int i) {
        if (i != -1 && (!isGiver(i) || !comes(i))) return BAD;
        int[] first = new int[9];
        long count = look(0, new int[8], order(told.last), true, first);
        if (i == -1) return count;
        return count == 0 ? NONE : first[i];
    }

    long fails() {
        return look(0, new int[8], order(told.last), false, null);
    }

    long bestBar(int what) {
        if (!in(what, 0, 1)) return BAD;
        long best = 0, least = Long.MAX_VALUE;
        for (int b = 1; b <= 60; b++) {
            Terms t = terms();
            t.bar = b;
            long[] sums = all(t);
            if (sums[1] + sums[2] < least) {
                least = sums[1] + sums[2];
                best = b;
            }
        }
        return what == 0 ? best : least;
    }

    int bestDay() {
        int best = -1;
        double most = -1;
        for (int d = 0; d <= 30; d++) {
            Terms t = terms();
            t.last = d;
            double odds = all(t)[0] * 1.0 / ten(order(d).size());
            if (odds > most) {
                most = odds;
                best = d;
            }
        }
        return best;
    }

    int extra(int q) {
        if (!in(q, 0, 10)) return BAD;
        for (int e = 0; e <= 9; e++) {
            Terms t = terms();
            t.extra = e;
            if (all(t)[0] * 10 >= q * ten(order(told.last).size())) return e;
        }
        return NONE;
    }

    int bestShow() {
        int best = -1;
        long most = -1;
        for (int how = 0; how < 3; how++) {
            Terms t = terms();
            t.shown = how;
            long built = all(t)[0];
            if (built > most) {
                most = built;
                best = how;
            }
        }
        return best;
    }

    long rich(int r, int day) {
        if (!in(r, 0, 99) || !in(day, 0, told.last)) return BAD;
        Terms t = terms();
        t.rich = r;
        t.richDay = day;
        return all(t)[0];
    }

    int richDay(int r) {
        if (!in(r, 0, 99)) return BAD;
        int best = 0;
        for (int d = 1; d <= told.last; d++) if (rich(r, d) > rich(r, best)) best = d;
        return best;
    }

    long two(int what) {
        if (!in(what, 0, 2)) return BAD;
        if (told.secondBar == 0) return NO;
        return all(terms())[what == 0 ? 0 : what + 2];
    }

    private int[] drawn(int z) {
        int[] worths = new int[8];
        for (int i = 0; i < told.sortOf.size(); i++) {
            long x = 7919L * z + 6151L * i + 1;
            long draw = ((x * x) % 65521) % 10;
            int below = 0;
            for (int[] w : sort(i).worths) {
                if (draw >= below && draw < below + w[1]) worths[i] = w[0];
                below += w[1];
            }
        }
        return worths;
    }

    int evening(int z, int i, int what) {
        if (!in(z, 0, 9999) || !isGiver(i) || !in(what, 0, 1)) return -1001;
        if (!comes(i)) return -1004;
        Play p = play(terms(), drawn(z));
        return what == 0 ? p.gifts[i] : p.has[i];
    }

    int whole(int z, int what) {
        if (!in(z, 0, 9999) || !in(what, 0, 1)) return BAD;
        Play p = play(terms(), drawn(z));
        return what == 0 ? p.total : p.built ? 1 : 0;
    }

    int keep() {
        if (kept.size() == 2) return FULL;
        int[] k = Arrays.copyOf(row, 9);
        k[8] = shown;
        kept.add(k);
        return kept.size();
    }

    int back() {
        if (kept.isEmpty()) return NO;
        int[] k = kept.remove(kept.size() - 1);
        row = Arrays.copyOf(k, 8);
        shown = k[8];
        return kept.size();
    }

    int count(int what) {
        int[] counts = {told.sortOf.size(), order(told.last).size(), told.sorts.size(), text.length(), kept.size(),
            told.bar, told.last};
        return in(what, 0, 6) ? counts[what] : BAD;
    }
}
