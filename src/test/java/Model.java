import java.util.ArrayList;
import java.util.HashMap;
import java.util.List;
import java.util.Map;
import java.util.regex.Matcher;
import java.util.regex.Pattern;

/**
 * The document once more, written in another way than the class: lists, a regular expression
 * for THE TEXT, whole layouts compared with one another, nothing kept between calls.
 */
final class Model {
    static final int NONE = -1, BAD = -2, NO = -3, FULL = -4;

    private static final Pattern TEXT = Pattern.compile(
            " *(?:(?:[ab] *N(?: +N){0,11}|t *N +N +N|w *N +N|[hls] *N) *; *)+".replace("N", "[0-9]{1,2}"));

    record Tie(int p, int q, int w) {
        boolean crosses(Tie o) {
            return (p - o.p) * (q - o.q) < 0;
        }
    }

    record Opening(int from0, int x, int from1, int y) {
    }

    record Plan(int cost, List<Opening> openings) {
    }

    /** Never changed once made. */
    record State(List<List<List<Integer>>> sides, List<Integer> widths, List<Integer> settings, List<Tie> ties) {
        State withSide(int s, List<List<Integer>> side) {
            return new State(replaced(sides, s, side), widths, settings, ties);
        }

        State withTies(List<Tie> other) {
            return new State(sides, widths, settings, List.copyOf(other));
        }
    }

    private State now = new State(List.of(List.of(), List.of()), List.of(20, 20), List.of(8, 2, 1), List.of());
    private List<State> past = new ArrayList<>();
    private String text = "";
    private final int[] refused = new int[3];

    static <T> List<T> replaced(List<T> list, int at, T x) {
        List<T> copy = new ArrayList<>(list);
        copy.set(at, x);
        return List.copyOf(copy);
    }

    static <T> List<T> extended(List<T> list, T x) {
        List<T> copy = new ArrayList<>(list);
        copy.add(x);
        return List.copyOf(copy);
    }

    static <T> List<T> without(List<T> list, int at) {
        List<T> copy = new ArrayList<>(list);
        copy.remove(at);
        return List.copyOf(copy);
    }

    private int refuse(int why) {
        refused[-2 - why]++;
        return why;
    }

    private int done(State next, int answer) {
        past.add(now);
        if (past.size() > 6) {
            past.remove(0);
        }
        now = next;
        return answer;
    }

    // ---- lines

    static List<List<Integer>> fill(List<Integer> lengths, int width) {
        List<List<Integer>> all = new ArrayList<>();
        for (int length : lengths) {
            List<Integer> last = all.isEmpty() ? null : all.get(all.size() - 1);
            if (last != null && last.stream().mapToInt(l -> l + 1).sum() + length <= width) {
                last.add(length);
            } else {
                all.add(new ArrayList<>(List.of(length)));
            }
        }
        return all;
    }

    static int high(State st, int s, int p) {
        return fill(st.sides.get(s).get(p), st.widths.get(s)).size();
    }

    static int firstLine(State st, int s, int p) {
        int sum = 0;
        for (int i = 0; i < p; i++) {
            sum += high(st, s, i);
        }
        return sum;
    }

    static int allLines(State st, int s) {
        return firstLine(st, s, st.sides.get(s).size());
    }

    static boolean isLawful(State st, int s, int b) {
        int at = 0;
        int least = st.settings.get(1);
        for (int p = 0; p < st.sides.get(s).size(); p++) {
            int n = high(st, s, p);
            if (b == at) {
                return true;
            }
            if (b > at && b < at + n) {
                return b - at >= least && at + n - b >= least;
            }
            at += n;
        }
        return b == at;
    }

    // ---- one change, on a State: null when refused, with the reason in why

    private int why;

    private State fail(int reason) {
        why = reason;
        return null;
    }

    private State plusParagraph(State st, int s, List<Integer> lengths) {
        for (int l : lengths) {
            if (l < 1 || l > 9) {
                return fail(BAD);
            }
        }
        if (st.sides.get(s).size() == 8) {
            return fail(FULL);
        }
        State next = st.withSide(s, extended(st.sides.get(s), List.copyOf(lengths)));
        return allLines(next, s) > 60 ? fail(FULL) : next;
    }

    private State withWidth(State st, int s, int v) {
        if (s < 0 || s > 1 || v < 9 || v > 40) {
            return fail(BAD);
        }
        State next = new State(st.sides, replaced(st.widths, s, v), st.settings, st.ties);
        return allLines(next, s) > 60 ? fail(FULL) : next;
    }

    private State withSetting(State st, int what, int v) {
        boolean fine = what == 0 && v >= 2 && v <= 12 || what == 1 && v >= 1 && v <= 3 || what == 2 && v >= 0 && v <= 9;
        return fine ? new State(st.sides, st.widths, replaced(st.settings, what, v), st.ties) : fail(BAD);
    }

    private State plusTie(State st, int p, int q, int w) {
        if (!has(st, 0, p) || !has(st, 1, q) || w < 1 || w > 9) {
            return fail(BAD);
        }
        if (st.ties.stream().anyMatch(t -> t.p == p && t.q == q)) {
            return fail(NO);
        }
        return st.ties.size() == 10 ? fail(FULL) : st.withTies(extended(st.ties, new Tie(p, q, w)));
    }

    private static boolean has(State st, int s, int p) {
        return (s == 0 || s == 1) && p >= 0 && p < st.sides.get(s).size();
    }

    // ---- the calls

    int para(int s, int n, int seed) {
        if (s < 0 || s > 1 || n < 1 || n > 12 || seed < 0 || seed > 99) {
            return refuse(BAD);
        }
        List<Integer> lengths = new ArrayList<>();
        for (int k = 0; k < n; k++) {
            lengths.add((seed * 7 + k * k * 3 + k * 5) % 9 + 1);
        }
        State next = plusParagraph(now, s, lengths);
        return next == null ? refuse(why) : done(next, now.sides.get(s).size());
    }

    int drops(int s, int p) {
        if (!has(now, s, p)) {
            return refuse(BAD);
        }
        List<Tie> left = new ArrayList<>();
        for (Tie t : now.ties) {
            int end = s == 0 ? t.p : t.q;
            if (end != p) {
                int less = end > p ? 1 : 0;
                left.add(s == 0 ? new Tie(t.p - less, t.q, t.w) : new Tie(t.p, t.q - less, t.w));
            }
        }
        int went = now.ties.size() - left.size();
        return done(now.withSide(s, without(now.sides.get(s), p)).withTies(left), went);
    }

    int widths(int s, int v) {
        State next = withWidth(now, s, v);
        return next == null ? refuse(why) : done(next, now.widths.get(s));
    }

    int sets(int what, int v) {
        State next = withSetting(now, what, v);
        return next == null ? refuse(why) : done(next, now.settings.get(what));
    }

    int ties(int p, int q, int w) {
        State next = plusTie(now, p, q, w);
        return next == null ? refuse(why) : done(next, now.ties.size());
    }

    int unties(int i) {
        if (i < 0 || i >= now.ties.size()) {
            return refuse(BAD);
        }
        return done(now.withTies(without(now.ties, i)), now.ties.size() - 1);
    }

    int of(int s, int p, int what) {
        if (!has(now, s, p) || what < 0 || what > 4) {
            return refuse(BAD);
        }
        int first = firstLine(now, s, p);
        int n = high(now, s, p);
        return switch (what) {
            case 0 -> now.sides.get(s).get(p).size();
            case 1 -> n;
            case 2 -> first;
            case 3 -> openingOf(s, first);
            default -> openingOf(s, first + n - 1);
        };
    }

    private int openingOf(int s, int line) {
        Plan plan = layout(now);
        for (int k = 0; plan != null && k < plan.openings.size(); k++) {
            Opening o = plan.openings.get(k);
            if (holds(s, o, line)) {
                return k;
            }
        }
        return NONE;
    }

    private static boolean holds(int s, Opening o, int line) {
        int from = s == 0 ? o.from0 : o.from1;
        return line >= from && line < from + (s == 0 ? o.x : o.y);
    }

    int word(int s, int p, int k, int what) {
        if (!has(now, s, p) || k < 0 || k >= now.sides.get(s).get(p).size() || what < 0 || what > 1) {
            return refuse(BAD);
        }
        if (what == 0) {
            return now.sides.get(s).get(p).get(k);
        }
        int line = 0;
        int ahead = 0;
        for (List<Integer> row : fill(now.sides.get(s).get(p), now.widths.get(s))) {
            ahead += row.size();
            if (k < ahead) {
                break;
            }
            line++;
        }
        return line;
    }

    int tie(int i, int what) {
        if (i < 0 || i >= now.ties.size() || what < 0 || what > 4) {
            return refuse(BAD);
        }
        Tie t = now.ties.get(i);
        return switch (what) {
            case 0 -> t.p;
            case 1 -> t.q;
            case 2 -> t.w;
            case 3 -> kept(now).contains(i) ? 1 : 0;
            default -> (int) now.ties.stream().filter(t::crosses).count();
        };
    }

    private static List<int[]> pairs(State st) {
        List<int[]> all = new ArrayList<>();
        for (int i = 0; i < st.ties.size(); i++) {
            for (int j = i + 1; j < st.ties.size(); j++) {
                if (st.ties.get(i).crosses(st.ties.get(j))) {
                    all.add(new int[] {i, j});
                }
            }
        }
        return all;
    }

    int crossing(int n, int what) {
        if (n < 0 || what < 0 || what > 1) {
            return refuse(BAD);
        }
        List<int[]> all = pairs(now);
        return n < all.size() ? all.get(n)[what] : NONE;
    }

    int lawful(int s, int b) {
        if (s < 0 || s > 1 || b < 0 || b > allLines(now, s)) {
            return refuse(BAD);
        }
        return isLawful(now, s, b) ? 1 : 0;
    }

    int opening(int k, int what) {
        if (k < 0 || what < 0 || what > 4) {
            return refuse(BAD);
        }
        Plan plan = layout(now);
        if (plan == null || k >= plan.openings.size()) {
            return NONE;
        }
        Opening o = plan.openings.get(k);
        return switch (what) {
            case 0 -> o.from0;
            case 1 -> o.x;
            case 2 -> o.from1;
            case 3 -> o.y;
            default -> k == plan.openings.size() - 1 ? 0 : cost(now, o);
        };
    }

    int count(int what) {
        switch (what) {
            case 0, 1:
                return now.sides.get(what).size();
            case 2, 3:
                return allLines(now, what - 2);
            case 4:
                return now.ties.size();
            case 5:
                return pairs(now).size();
            case 6:
                return kept(now).stream().mapToInt(i -> 1 << i).sum();
            case 7:
                return weight(now, kept(now));
            case 8:
                return layout(now) == null ? NONE : layout(now).openings.size();
            case 9:
                return layout(now) == null ? NONE : layout(now).cost;
            default:
                return refuse(BAD);
        }
    }

    int type(int c) {
        if (c < 0 || c > 127) {
            return refuse(BAD);
        }
        if (text.length() == 120) {
            return refuse(FULL);
        }
        text += (char) c;
        return text.length();
    }

    int clear() {
        int had = text.length();
        text = "";
        return had;
    }

    int does() {
        if (!TEXT.matcher(text).matches()) {
            return -10 - fault(text);
        }
        State next = now;
        int n = 0;
        for (String order : text.split(";")) {
            if (order.isBlank()) {
                continue;
            }
            next = carriedOut(next, order.strip());
            if (next == null) {
                return -1000 - n;
            }
            n++;
        }
        return done(next, n);
    }

    /** The first place where what is read so far can not go on to a whole TEXT. */
    static int fault(String text) {
        for (int i = 0; i < text.length(); i++) {
            Matcher m = TEXT.matcher(text.substring(0, i + 1));
            if (!m.matches() && !m.hitEnd()) {
                return i;
            }
        }
        return text.length();
    }

    private State carriedOut(State st, String order) {
        List<Integer> n = new ArrayList<>();
        for (String figures : order.substring(1).strip().split(" +")) {
            n.add(Integer.parseInt(figures));
        }
        return switch (order.charAt(0)) {
            case 'a' -> plusParagraph(st, 0, n);
            case 'b' -> plusParagraph(st, 1, n);
            case 't' -> plusTie(st, n.get(0), n.get(1), n.get(2));
            case 'w' -> withWidth(st, n.get(0), n.get(1));
            case 'h' -> withSetting(st, 0, n.get(0));
            case 'l' -> withSetting(st, 1, n.get(0));
            default -> withSetting(st, 2, n.get(0));
        };
    }

    int back() {
        if (past.isEmpty()) {
            return refuse(NO);
        }
        now = past.remove(past.size() - 1);
        return past.size();
    }

    int told(int what) {
        return switch (what) {
            case 0, 1, 2 -> refused[what];
            case 3, 4 -> now.widths.get(what - 3);
            case 5, 6, 7 -> now.settings.get(what - 5);
            case 8 -> text.length();
            case 9 -> past.size();
            default -> refuse(BAD);
        };
    }

    long digest() {
        List<Integer> all = new ArrayList<>();
        for (int i = 0; i < 10; i++) {
            all.add(told(i));
        }
        for (int i = 0; i < 10; i++) {
            all.add(count(i));
        }
        for (int s = 0; s < 2; s++) {
            for (int p = 0; p < now.sides.get(s).size(); p++) {
                for (int i = 0; i < 5; i++) {
                    all.add(of(s, p, i));
                }
            }
        }
        for (int t = 0; t < now.ties.size(); t++) {
            for (int i = 0; i < 5; i++) {
                all.add(tie(t, i));
            }
        }
        for (int k = 0; k < count(8); k++) {
            for (int i = 0; i < 5; i++) {
                all.add(opening(k, i));
            }
        }
        long h = 2591;
        for (int v : all) {
            h = 31 * h + v;
        }
        return h;
    }

    // ---- kept ties

    private static int weight(State st, List<Integer> set) {
        return set.stream().mapToInt(i -> st.ties.get(i).w).sum();
    }

    static List<Integer> kept(State st) {
        return keptFrom(st, st.ties.size() - 1, List.of());
    }

    /** From the last TIE on: without it is the lesser number, so with it must be truly better. */
    private static List<Integer> keptFrom(State st, int i, List<Integer> chosen) {
        if (i < 0) {
            return chosen;
        }
        List<Integer> without = keptFrom(st, i - 1, chosen);
        if (chosen.stream().anyMatch(c -> st.ties.get(c).crosses(st.ties.get(i)))) {
            return without;
        }
        List<Integer> with = keptFrom(st, i - 1, extended(chosen, i));
        int more = weight(st, with) - weight(st, without);
        return more > 0 || more == 0 && with.size() > without.size() ? with : without;
    }

    // ---- layouts

    static int cost(State st, Opening o) {
        int h = st.settings.get(0);
        int a = h - o.x;
        int b = h - o.y;
        return a * a + b * b + st.settings.get(2) * (a - b) * (a - b);
    }

    private State laidOut;
    private Plan laid;

    private Plan layout(State st) {
        if (laidOut != st) {
            laidOut = st;
            laid = new Search(st).from(0, 0);
        }
        return laid;
    }

    static boolean better(Plan a, Plan b) {
        if (b == null || a.cost != b.cost) {
            return b == null || a.cost < b.cost;
        }
        if (a.openings.size() != b.openings.size()) {
            return a.openings.size() < b.openings.size();
        }
        for (int k = 0; k < a.openings.size(); k++) {
            Opening o = a.openings.get(k);
            Opening r = b.openings.get(k);
            if (o.x != r.x) {
                return o.x > r.x;
            }
            if (o.y != r.y) {
                return o.y > r.y;
            }
        }
        return false;
    }

    /** All layouts of the rest, by memory of the best of each rest. */
    private static final class Search {
        private final State st;
        private final List<int[]> starts = new ArrayList<>();
        private final int n0;
        private final int n1;
        private final boolean[][] fine = new boolean[2][61];
        private final Map<Integer, Plan> best = new HashMap<>();

        Search(State st) {
            this.st = st;
            n0 = allLines(st, 0);
            n1 = allLines(st, 1);
            for (int i : kept(st)) {
                Tie t = st.ties.get(i);
                starts.add(new int[] {firstLine(st, 0, t.p), firstLine(st, 1, t.q)});
            }
            for (int s = 0; s < 2; s++) {
                for (int b = 0; b <= (s == 0 ? n0 : n1); b++) {
                    fine[s][b] = isLawful(st, s, b);
                }
            }
        }

        Plan from(int i, int j) {
            if (i == n0 && j == n1) {
                return new Plan(0, List.of());
            }
            int key = i * 100 + j;
            if (!best.containsKey(key)) {
                best.put(key, search(i, j));
            }
            return best.get(key);
        }

        private Plan search(int i, int j) {
            Plan found = null;
            int h = st.settings.get(0);
            for (int x = 0; x <= h && i + x <= n0; x++) {
                for (int y = 0; y <= h && j + y <= n1; y++) {
                    Opening o = new Opening(i, x, j, y);
                    if (x + y == 0 || !fine[0][i + x] || !fine[1][j + y] || !inStep(o)) {
                        continue;
                    }
                    Plan rest = from(i + x, j + y);
                    if (rest == null) {
                        continue;
                    }
                    List<Opening> all = new ArrayList<>(List.of(o));
                    all.addAll(rest.openings);
                    Plan plan = new Plan(rest.cost + (rest.openings.isEmpty() ? 0 : cost(st, o)), all);
                    if (better(plan, found)) {
                        found = plan;
                    }
                }
            }
            return found;
        }

        private boolean inStep(Opening o) {
            for (int[] t : starts) {
                if (holds(0, o, t[0]) != holds(1, o, t[1])) {
                    return false;
                }
            }
            return true;
        }
    }
}
