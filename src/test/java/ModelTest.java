import java.util.Random;

/** Long runs of mixed calls, each answer beside that of the Model. The seeds are fixed: every run is the same. */
public final class ModelTest {
    private static final String[] ORDERS = {
        "a 3 5 2;", "b9 9 9 ;", "a 1 2 3 4 5 6 7 8 9 1 2 3;", "b 09 8 7 6 5 4 3 2 1 9 8 7;", "t 0 0 4;", "t1 1 9;",
        "t 2 0 3;", "w 0 12;", "w1 9;", "h 4;", "h12;", "l 1;", "l3;", "s 0;", "s 9;", "a 10;", "a 0;", "t 0 0 0;",
        "w 2 20;", "w 0 8;", "h 1;", "h 13;", "l 4;", "s 10;", "t 9 0 1;", "b 4 4 4;", " ", "  ", "a 5 5;", "b 5 5;"};
    private static final String SIGNS = "ab t w h l s ; ; 0 1 2 3 4 5 6 7 8 9 99 x";

    /** Calls of one object: digest() and the end of a text come on top, and all stay within 512. */
    private static final int ENOUGH = 505;

    private final Random random;
    private final FacingPages real = new FacingPages();
    private final Model model = new Model();
    private final String run;
    private final int wild;
    private final int kind;
    private int calls;

    private ModelTest(int seed) {
        random = new Random(seed);
        run = "run " + seed + ": ";
        wild = seed % 3 == 0 ? 10 : 60;
        kind = seed % 4;
    }

    public static void main(String[] args) {
        for (int seed = 0; seed < 400 && Check.allRight(); seed++) {
            new ModelTest(seed).play();
        }
        Check.end();
    }

    private void play() {
        while (calls < ENOUGH && Check.allRight()) {
            if (random.nextInt(5) < 3) {
                change();
            } else {
                ask();
            }
            if (random.nextInt(12) == 0) {
                due("digest()", real.digest(), model.digest());
            }
        }
        due("digest() at the end", real.digest(), model.digest());
        Check.isTrue(run + "at most 512 calls", calls <= 512);
    }

    /** A number from..to, now and then one at or beyond an edge. */
    private int number(int from, int to) {
        if (random.nextInt(wild) != 0) {
            return from + random.nextInt(Math.max(1, to - from + 1));
        }
        int[] edges = {from - 1, to + 1, from, to, Integer.MIN_VALUE, Integer.MAX_VALUE, -1};
        return edges[random.nextInt(edges.length)];
    }

    private int some(int what) {
        return Math.max(0, model.count(what) - 1);
    }

    private void due(String call, long got, long want) {
        calls++;
        Check.due(run + call, got, want);
    }

    private void change() {
        int pick = random.nextInt(kind == 1 ? 24 : 20);
        if (pick < 5) {
            int s = number(0, 1);
            int n = kind == 2 ? number(8, 12) : number(1, 12);
            int seed = number(0, 99);
            due("para(" + s + ", " + n + ", " + seed + ")", real.para(s, n, seed), model.para(s, n, seed));
        } else if (pick < 6) {
            int s = number(0, 1);
            int p = number(0, some(s == 1 ? 1 : 0));
            due("drops(" + s + ", " + p + ")", real.drops(s, p), model.drops(s, p));
        } else if (pick < 8) {
            int s = number(0, 1);
            int v = kind == 2 ? number(9, 16) : number(9, 40);
            due("widths(" + s + ", " + v + ")", real.widths(s, v), model.widths(s, v));
        } else if (pick < 10) {
            int what = number(0, 2);
            int v = number(what == 0 ? 2 : what == 1 ? 1 : 0, what == 0 ? 12 : what == 1 ? 3 : 9);
            due("sets(" + what + ", " + v + ")", real.sets(what, v), model.sets(what, v));
        } else if (pick < 16) {
            int p = number(0, some(0));
            int q = number(0, some(1));
            int w = kind == 3 ? number(1, 2) : number(1, 9);
            due("ties(" + p + ", " + q + ", " + w + ")", real.ties(p, q, w), model.ties(p, q, w));
        } else if (pick < 17) {
            int i = number(0, some(4));
            due("unties(" + i + ")", real.unties(i), model.unties(i));
        } else if (pick < 18) {
            due("back()", real.back(), model.back());
        } else {
            text();
        }
    }

    private void text() {
        StringBuilder text = new StringBuilder();
        int parts = 1 + random.nextInt(kind == 1 ? 14 : 4);
        for (int i = 0; i < parts; i++) {
            if (random.nextInt(25) == 0) {
                text.append(SIGNS.charAt(random.nextInt(SIGNS.length())));
            }
            text.append(ORDERS[random.nextInt(random.nextInt(6) == 0 ? ORDERS.length : 15)]);
        }
        if (random.nextInt(6) == 0) {
            text.setLength(random.nextInt(text.length() + 1));
        }
        text.setLength(Math.min(text.length(), ENOUGH - calls));
        if (random.nextInt(5) != 0) {
            due("clear()", real.clear(), model.clear());
        }
        for (char c : text.toString().toCharArray()) {
            due("type(" + (int) c + ")", real.type(c), model.type(c));
        }
        due("does() of " + text, real.does(), model.does());
    }

    private void ask() {
        int pick = random.nextInt(9);
        int s = number(0, 1);
        int p = number(0, some(s == 1 ? 1 : 0));
        int k = number(0, 12);
        int what = number(0, 4);
        int i = number(0, some(4));
        switch (pick) {
            case 0 -> due("of(" + s + ", " + p + ", " + what + ")", real.of(s, p, what), model.of(s, p, what));
            case 1 -> {
                int flag = number(0, 1);
                due("word(" + s + ", " + p + ", " + k + ", " + flag + ")", real.word(s, p, k, flag), model.word(s, p, k, flag));
            }
            case 2 -> due("tie(" + i + ", " + what + ")", real.tie(i, what), model.tie(i, what));
            case 3 -> {
                int flag = number(0, 1);
                due("crossing(" + k + ", " + flag + ")", real.crossing(k, flag), model.crossing(k, flag));
            }
            case 4 -> {
                int b = number(0, some(s == 1 ? 3 : 2) + 1);
                due("lawful(" + s + ", " + b + ")", real.lawful(s, b), model.lawful(s, b));
            }
            case 5 -> due("opening(" + k + ", " + what + ")", real.opening(k, what), model.opening(k, what));
            case 6 -> {
                int which = number(0, 9);
                due("count(" + which + ")", real.count(which), model.count(which));
            }
            case 7 -> {
                int which = number(0, 9);
                due("told(" + which + ")", real.told(which), model.told(which));
            }
            default -> {
                int c = number(0, 127);
                due("type(" + c + ")", real.type(c), model.type(c));
            }
        }
    }
}
