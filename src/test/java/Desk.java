/**
 * A new FacingPages and the sentence of the document that is looked at with it. Each call stands with the
 * answer due behind its numbers. Of every refusal it is looked at, too, that it changes nothing but how often.
 */
final class Desk {
    static final int NONE = -1, BAD = -2, NO = -3, FULL = -4;
    static final int LOWEST = Integer.MIN_VALUE;
    static final int FARTHEST = Integer.MAX_VALUE;
    private static final int MOST_CALLS = 512;

    private final FacingPages x = new FacingPages();
    private final String sentence;
    private int calls;
    private long before;

    Desk(String sentence) {
        this.sentence = sentence;
    }

    /** One in which the ORDERS of each text are done already; THE TEXT is empty then. */
    static Desk with(String sentence, String... texts) {
        Desk d = new Desk(sentence);
        for (String text : texts) {
            int orders = (int) text.chars().filter(c -> c == ';').count();
            d.does(text, orders);
        }
        d.x.clear();
        d.calls++;
        return d;
    }

    // ---- told by calls

    void para(int s, int n, int seed, int due) {
        ahead(due);
        behind(x.para(s, n, seed), due, "para", s, n, seed);
    }

    void drops(int s, int p, int due) {
        ahead(due);
        behind(x.drops(s, p), due, "drops", s, p);
    }

    void widths(int s, int v, int due) {
        ahead(due);
        behind(x.widths(s, v), due, "widths", s, v);
    }

    void sets(int what, int v, int due) {
        ahead(due);
        behind(x.sets(what, v), due, "sets", what, v);
    }

    void ties(int p, int q, int w, int due) {
        ahead(due);
        behind(x.ties(p, q, w), due, "ties", p, q, w);
    }

    void unties(int i, int due) {
        ahead(due);
        behind(x.unties(i), due, "unties", i);
    }

    // ---- what is asked

    void of(int s, int p, int what, int due) {
        ahead(due);
        behind(x.of(s, p, what), due, "of", s, p, what);
    }

    void word(int s, int p, int k, int what, int due) {
        ahead(due);
        behind(x.word(s, p, k, what), due, "word", s, p, k, what);
    }

    void tie(int i, int what, int due) {
        ahead(due);
        behind(x.tie(i, what), due, "tie", i, what);
    }

    void crossing(int n, int what, int due) {
        ahead(due);
        behind(x.crossing(n, what), due, "crossing", n, what);
    }

    void lawful(int s, int b, int due) {
        ahead(due);
        behind(x.lawful(s, b), due, "lawful", s, b);
    }

    void opening(int k, int what, int due) {
        ahead(due);
        behind(x.opening(k, what), due, "opening", k, what);
    }

    void count(int what, int due) {
        ahead(due);
        behind(x.count(what), due, "count", what);
    }

    // ---- texts

    void type(int c, int due) {
        ahead(due);
        behind(x.type(c), due, "type", c);
    }

    void clear(int due) {
        ahead(due);
        behind(x.clear(), due, "clear");
    }

    void does(int due) {
        ahead(due);
        behind(x.does(), due, "does");
    }

    void back(int due) {
        ahead(due);
        behind(x.back(), due, "back");
    }

    void told(int what, int due) {
        ahead(due);
        behind(x.told(what), due, "told", what);
    }

    long digest() {
        calls++;
        return x.digest();
    }

    // ---- several at once

    /** THE TEXT anew, and does. */
    void does(String text, int due) {
        retype(text);
        ahead(due);
        behind(x.does(), due, "does of '" + text + "'");
    }

    void retype(String text) {
        x.clear();
        for (char c : text.toCharArray()) {
            x.type(c);
        }
        calls += text.length() + 1;
    }

    /** All LAWFUL from BREAK 0 on, a figure each, and no BREAK behind them. */
    void allLawful(int s, String due) {
        for (int b = 0; b < due.length(); b++) {
            lawful(s, b, due.charAt(b) - '0');
        }
        lawful(s, due.length(), BAD);
    }

    /** All OPENINGS as LINES taken of SIDE 0 and of SIDE 1, and no OPENING behind them. */
    void openings(int cost, int[]... taken) {
        int from0 = 0;
        int from1 = 0;
        for (int k = 0; k < taken.length; k++) {
            opening(k, 0, from0);
            opening(k, 1, taken[k][0]);
            opening(k, 2, from1);
            opening(k, 3, taken[k][1]);
            from0 += taken[k][0];
            from1 += taken[k][1];
        }
        opening(taken.length, 1, NONE);
        count(8, taken.length);
        count(9, cost);
    }

    static int[] takes(int x, int y) {
        return new int[] {x, y};
    }

    void noLayout() {
        count(8, NONE);
        count(9, NONE);
        for (int what = 0; what < 5; what++) {
            opening(0, what, NONE);
        }
    }

    /** KEPT TIES as bits, and their WEIGHT. */
    void kept(int bits, int weight) {
        count(6, bits);
        count(7, weight);
    }

    /** How often refused, and STATES. */
    void refusals(int bad, int no, int full, int states) {
        told(0, bad);
        told(1, no);
        told(2, full);
        told(9, states);
    }

    void same(String what, long got, long due) {
        Check.due(sentence + ": " + what, got, due);
    }

    // ---- how a call is looked at

    private static boolean leavesAll(int due) {
        return due < 0;
    }

    private void ahead(int due) {
        calls++;
        if (leavesAll(due)) {
            before = digest();
        }
    }

    private void behind(int got, int due, String call, int... numbers) {
        StringBuilder all = new StringBuilder(call).append('(');
        for (int i = 0; i < numbers.length; i++) {
            all.append(i == 0 ? "" : ", ").append(numbers[i]);
        }
        String label = all.append(')').toString();
        same(label, got, due);
        if (leavesAll(due)) {
            same(label + " leaves all but how often", digest(), before + oncemore(due));
        }
        Check.isTrue(sentence + ": at most 512 calls", calls <= MOST_CALLS);
    }

    /** By how much a refusal more makes the digest greater: 31 as often as there are values behind its own. */
    private long oncemore(int due) {
        if (due > BAD || due < FULL) {
            return 0;
        }
        int which = BAD - due;
        int rows = x.count(0) + x.count(1) + x.count(4) + Math.max(0, x.count(8));
        calls += 4;
        long weight = 1;
        for (int i = 20 + 5 * rows; i > which + 1; i--) {
            weight *= 31;
        }
        return weight;
    }
}
