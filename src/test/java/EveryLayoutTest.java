import java.util.ArrayList;
import java.util.List;
import java.util.Random;

/**
 * THE LAYOUT of small books beside all layouts that there are, each made whole and then looked at by the document's
 * words: no part of one is judged alone, as the class and Model both do. The seeds are fixed: every run is the same.
 */
public final class EveryLayoutTest {
    private static final int BOOKS = 600;
    /** With more LINES of a SIDE there are too many layouts to look at. */
    private static final int MOST_LINES = 6;

    private final Random random;
    private final String book;
    private final FacingPages x = new FacingPages();
    private final List<List<Integer>> paragraphs = List.of(new ArrayList<>(), new ArrayList<>());
    private final List<int[]> ties = new ArrayList<>();
    private final int[] total = new int[2];
    private final int high;
    private final int least;
    private final int share;
    private int kept;
    private List<int[]> best;
    private int looked;

    private EveryLayoutTest(int seed) {
        random = new Random(seed);
        book = "book " + seed + ": ";
        high = 2 + random.nextInt(seed % 5 == 0 ? 11 : 3);
        least = 1 + random.nextInt(3);
        share = random.nextInt(10);
    }

    public static void main(String[] args) {
        int none = 0;
        int some = 0;
        for (int seed = 0; seed < BOOKS && Check.allRight(); seed++) {
            EveryLayoutTest test = new EveryLayoutTest(seed);
            test.tell();
            test.chooseKept();
            test.makeAll(new ArrayList<>(), 0, 0);
            test.compare();
            none += test.best == null ? 1 : 0;
            some += test.looked > 1 ? 1 : 0;
        }
        Check.isTrue("books without a layout are among them: " + none, none > BOOKS / 50);
        Check.isTrue("books with many layouts are among them: " + some, some > BOOKS / 2);
        Check.end();
    }

    // ---- the book: with WIDTH 9 and LENGTHS of 9 each WORD is a LINE

    private void tell() {
        String text = "w 0 9; w 1 9; h " + high + "; l " + least + "; s " + share + ";";
        for (int s = 0; s < 2; s++) {
            int lines = random.nextInt(MOST_LINES + 1);
            while (total[s] < lines) {
                int n = 1 + random.nextInt(lines - total[s]);
                paragraphs.get(s).add(n);
                total[s] += n;
                text += (s == 0 ? "a" : "b") + " 9".repeat(n) + ";";
            }
        }
        x.clear();
        for (char c : text.toCharArray()) {
            x.type(c);
        }
        Check.isTrue(book + text, x.does() > 0);
        tellTies();
    }

    private void tellTies() {
        for (int p = 0; p < paragraphs.get(0).size(); p++) {
            for (int q = 0; q < paragraphs.get(1).size(); q++) {
                if (ties.size() < 10 && random.nextInt(3) == 0) {
                    int[] tie = {p, q, 1 + random.nextInt(4)};
                    ties.add(random.nextInt(ties.size() + 1), tie);
                }
            }
        }
        for (int i = 0; i < ties.size(); i++) {
            Check.due(book + "ties", x.ties(ties.get(i)[0], ties.get(i)[1], ties.get(i)[2]), i);
        }
    }

    // ---- KEPT TIES: all sets, the greatest WEIGHT, the most, the least as bits

    private void chooseKept() {
        int[] most = {-1, 0};
        for (int set = 0; set < 1 << ties.size(); set++) {
            int[] worth = {0, Integer.bitCount(set)};
            for (int i = 0; i < ties.size(); i++) {
                worth[0] += (set >> i & 1) * ties.get(i)[2];
            }
            if (!crossed(set) && (worth[0] > most[0] || worth[0] == most[0] && worth[1] > most[1])) {
                most = worth;
                kept = set;
            }
        }
        Check.due(book + "count(6)", x.count(6), kept);
        Check.due(book + "count(7)", x.count(7), most[0]);
    }

    private boolean crossed(int set) {
        for (int i = 0; i < ties.size(); i++) {
            for (int j = 0; j < ties.size(); j++) {
                boolean both = (set >> i & 1) == 1 && (set >> j & 1) == 1;
                if (both && ties.get(i)[0] < ties.get(j)[0] && ties.get(i)[1] > ties.get(j)[1]) {
                    return true;
                }
            }
        }
        return false;
    }

    // ---- all layouts: OPENINGS as LINES taken of SIDE 0 and of SIDE 1

    private void makeAll(List<int[]> openings, int i, int j) {
        if (i == total[0] && j == total[1]) {
            if (mayBe(openings)) {
                looked++;
                best = best == null || better(openings, best) ? new ArrayList<>(openings) : best;
            }
            return;
        }
        for (int a = 0; a <= high && i + a <= total[0]; a++) {
            for (int b = 0; b <= high && j + b <= total[1]; b++) {
                if (a + b > 0) {
                    openings.add(new int[] {a, b});
                    makeAll(openings, i + a, j + b);
                    openings.remove(openings.size() - 1);
                }
            }
        }
    }

    private boolean mayBe(List<int[]> openings) {
        for (int s = 0; s < 2; s++) {
            int end = 0;
            for (int[] o : openings) {
                end += o[s];
                if (!lawful(s, end)) {
                    return false;
                }
            }
        }
        for (int i = 0; i < ties.size(); i++) {
            boolean bound = (kept >> i & 1) == 1;
            if (bound && openingOf(openings, 0, ties.get(i)[0]) != openingOf(openings, 1, ties.get(i)[1])) {
                return false;
            }
        }
        return true;
    }

    private boolean lawful(int s, int b) {
        int from = 0;
        for (int n : paragraphs.get(s)) {
            int ahead = b - from;
            if (ahead > 0 && ahead < n) {
                return ahead >= least && n - ahead >= least;
            }
            from += n;
        }
        return true;
    }

    private int firstLine(int s, int p) {
        return paragraphs.get(s).subList(0, p).stream().mapToInt(n -> n).sum();
    }

    private int openingOf(List<int[]> openings, int s, int p) {
        int line = firstLine(s, p);
        int k = 0;
        for (int end = openings.get(0)[s]; end <= line; end += openings.get(k)[s]) {
            k++;
        }
        return k;
    }

    private int cost(List<int[]> openings, int k) {
        int white0 = high - openings.get(k)[0];
        int white1 = high - openings.get(k)[1];
        int apart = white0 - white1;
        return k == openings.size() - 1 ? 0 : white0 * white0 + white1 * white1 + share * apart * apart;
    }

    private int cost(List<int[]> openings) {
        int sum = 0;
        for (int k = 0; k < openings.size(); k++) {
            sum += cost(openings, k);
        }
        return sum;
    }

    private boolean better(List<int[]> one, List<int[]> other) {
        int dearer = cost(one) - cost(other);
        int more = one.size() - other.size();
        if (dearer != 0 || more != 0) {
            return dearer < 0 || dearer == 0 && more < 0;
        }
        for (int k = 0; k < one.size(); k++) {
            for (int s = 0; s < 2; s++) {
                if (one.get(k)[s] != other.get(k)[s]) {
                    return one.get(k)[s] > other.get(k)[s];
                }
            }
        }
        return false;
    }

    // ---- what the class answers

    private void compare() {
        int openings = best == null ? -1 : best.size();
        Check.due(book + "count(8)", x.count(8), openings);
        Check.due(book + "count(9)", x.count(9), best == null ? -1 : cost(best));
        int[] from = new int[2];
        for (int k = 0; k < openings; k++) {
            for (int s = 0; s < 2; s++) {
                Check.due(book + "opening(" + k + ", " + 2 * s + ")", x.opening(k, 2 * s), from[s]);
                Check.due(book + "opening(" + k + ", " + (2 * s + 1) + ")", x.opening(k, 2 * s + 1), best.get(k)[s]);
                from[s] += best.get(k)[s];
            }
            Check.due(book + "opening(" + k + ", 4)", x.opening(k, 4), cost(best, k));
        }
        Check.due(book + "opening behind all", x.opening(Math.max(0, openings), 0), -1);
        for (int s = 0; s < 2; s++) {
            for (int p = 0; p < paragraphs.get(s).size(); p++) {
                int due = best == null ? -1 : openingOf(best, s, p);
                Check.due(book + "of(" + s + ", " + p + ", 3)", x.of(s, p, 3), due);
            }
        }
    }
}
