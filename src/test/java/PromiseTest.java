/** Each promise of the document by itself: ordinary inputs, the edges that it names, wrong inputs. */
public final class PromiseTest {
    private static final int NONE = -1, BAD = -2, NO = -3, FULL = -4;
    private static final int FARTHEST = Integer.MAX_VALUE;
    private static final int LOWEST = Integer.MIN_VALUE;
    private static final String TWELVE_NINES = " 9 9 9 9 9 9 9 9 9 9 9 9;";

    private static String promise = "";

    public static void main(String[] args) {
        promise1NewObject();
        promise2Para();
        promise2ParaFull();
        promise3Drops();
        promise4Widths();
        promise5Sets();
        promise6Ties();
        promise7Unties();
        promise8Of();
        promise9Word();
        promise10Tie();
        promise10Kept();
        promise11Crossing();
        promise12Lawful();
        promise13Opening();
        promise13OfEqualsTheMostFirst();
        promise13InStep();
        promise14Count();
        promise15Type();
        promise16Clear();
        promise17Does();
        promise17Faults();
        promise17OrderThatEndsAll();
        promise18Back();
        promise19Told();
        promise20Digest();
        Check.end();
    }

    private static void due(String call, long got, long want) {
        Check.due(promise + ": " + call, got, want);
    }

    private static FacingPages begin(String name) {
        promise = name;
        return new FacingPages();
    }

    private static int tell(FacingPages x, String text) {
        x.clear();
        for (int i = 0; i < text.length(); i++) {
            x.type(text.charAt(i));
        }
        return x.does();
    }

    /** A new object in which the ORDERS of the texts are done. */
    private static FacingPages begin(String name, String... texts) {
        FacingPages x = begin(name);
        for (String text : texts) {
            Check.isTrue(name + ": " + text + " is done", tell(x, text) > 0);
        }
        x.clear();
        return x;
    }

    private static void dueOpening(FacingPages x, int k, int... want) {
        for (int what = 0; what < want.length; what++) {
            due("opening(" + k + ", " + what + ")", x.opening(k, what), want[what]);
        }
    }

    private static void dueTold(FacingPages x, int bad, int no, int full, int states) {
        due("told(0)", x.told(0), bad);
        due("told(1)", x.told(1), no);
        due("told(2)", x.told(2), full);
        due("told(9)", x.told(9), states);
    }

    private static void promise1NewObject() {
        FacingPages x = begin("1");
        int[] told = {0, 0, 0, 20, 20, 8, 2, 1, 0, 0};
        long h = 2591;
        for (int what = 0; what < 10; what++) {
            due("told(" + what + ")", x.told(what), told[what]);
            h = 31 * h + told[what];
        }
        for (int what = 0; what < 10; what++) {
            due("count(" + what + ")", x.count(what), 0);
            h = 31 * h;
        }
        due("digest()", x.digest(), h);
        due("opening(0, 0)", x.opening(0, 0), NONE);
        due("lawful(0, 0)", x.lawful(0, 0), 1);
        due("lawful(1, 0)", x.lawful(1, 0), 1);
        due("lawful(0, 1)", x.lawful(0, 1), BAD);
        due("back()", x.back(), NO);
        due("NONE", FacingPages.NONE, NONE);
        due("BAD", FacingPages.BAD, BAD);
        due("NO", FacingPages.NO, NO);
        due("FULL", FacingPages.FULL, FULL);
    }

    private static void promise2Para() {
        FacingPages x = begin("2");
        due("para(0, 5, 3)", x.para(0, 5, 3), 0);
        int[] lengths = {4, 3, 8, 1, 9};
        for (int k = 0; k < 5; k++) {
            due("word(0, 0, " + k + ", 0)", x.word(0, 0, k, 0), lengths[k]);
        }
        due("para(1, 1, 0)", x.para(1, 1, 0), 0);
        due("para(0, 12, 99)", x.para(0, 12, 99), 1);
        due("word(0, 1, 0, 0)", x.word(0, 1, 0, 0), 1);
        due("word(0, 1, 11, 0)", x.word(0, 1, 11, 0), 5);
        int bad = x.told(0);
        int[][] wrong = {{-1, 1, 0}, {2, 1, 0}, {0, 0, 0}, {0, 13, 0}, {0, 1, -1}, {0, 1, 100}, {0, -1, 0},
            {LOWEST, 1, 0}, {0, FARTHEST, 0}, {0, 1, FARTHEST}, {0, LOWEST, 5}};
        for (int[] w : wrong) {
            due("para(" + w[0] + ", " + w[1] + ", " + w[2] + ")", x.para(w[0], w[1], w[2]), BAD);
        }
        dueTold(x, bad + wrong.length, 0, 0, 3);
        due("count(0)", x.count(0), 2);
        due("count(1)", x.count(1), 1);
    }

    private static void promise2ParaFull() {
        FacingPages x = begin("2");
        for (int p = 0; p < 8; p++) {
            due("para(1, 1, 0)", x.para(1, 1, 0), p);
        }
        due("a ninth", x.para(1, 1, 0), FULL);
        due("a ninth, and wrong", x.para(1, 0, 0), BAD);
        due("of the other side", x.para(0, 1, 0), 0);
        dueTold(x, 1, 0, 1, 6);
        String one = "a" + TWELVE_NINES;
        x = begin("2", "w 0 9;" + one + one + one + one, "a 9 9 9 9 9 9 9 9 9 9 9;a 9;");
        due("count(2)", x.count(2), 60);
        due("a line more", x.para(0, 1, 0), FULL);
        due("count(0)", x.count(0), 6);
        due("drops(0, 5)", x.drops(0, 5), 0);
        due("two lines more", x.para(0, 2, 5), FULL);
        due("the last line", x.para(0, 1, 4), 5);
        dueTold(x, 0, 0, 2, 4);
    }

    private static void promise3Drops() {
        FacingPages x = begin("3", "a 1;a 2;a 3;b 4;b 5;b 6;", "t 0 0 1;t 1 0 2;t 1 2 3;t 2 2 4;t 2 1 5;");
        due("drops(0, 1)", x.drops(0, 1), 2);
        due("count(0)", x.count(0), 2);
        due("word(0, 1, 0, 0)", x.word(0, 1, 0, 0), 3);
        due("count(4)", x.count(4), 3);
        int[][] left = {{0, 0, 1}, {1, 2, 4}, {1, 1, 5}};
        for (int i = 0; i < 3; i++) {
            for (int what = 0; what < 3; what++) {
                due("tie(" + i + ", " + what + ")", x.tie(i, what), left[i][what]);
            }
        }
        due("drops(1, 0)", x.drops(1, 0), 1);
        due("tie(0, 1)", x.tie(0, 1), 1);
        due("tie(1, 1)", x.tie(1, 1), 0);
        due("word(1, 0, 0, 0)", x.word(1, 0, 0, 0), 5);
        due("drops(1, 1)", x.drops(1, 1), 1);
        due("drops(1, 0)", x.drops(1, 0), 1);
        due("count(4)", x.count(4), 0);
        due("drops(1, 0)", x.drops(1, 0), BAD);
        due("drops(0, 2)", x.drops(0, 2), BAD);
        due("drops(0, -1)", x.drops(0, -1), BAD);
        due("drops(2, 0)", x.drops(2, 0), BAD);
        due("drops(-1, 0)", x.drops(-1, 0), BAD);
        due("drops(0, 0)", x.drops(0, 0), 0);
        dueTold(x, 5, 0, 0, 6);
    }

    private static void promise4Widths() {
        String one = "a" + TWELVE_NINES;
        FacingPages x = begin("4", one + one + one + one, one + one);
        due("count(2)", x.count(2), 36);
        due("widths(0, 19)", x.widths(0, 19), 20);
        due("count(2)", x.count(2), 36);
        due("widths(0, 18)", x.widths(0, 18), FULL);
        due("told(3)", x.told(3), 19);
        due("widths(0, 40)", x.widths(0, 40), 19);
        due("count(2)", x.count(2), 18);
        due("widths(1, 9)", x.widths(1, 9), 20);
        due("told(4)", x.told(4), 9);
        due("widths(1, 9)", x.widths(1, 9), 9);
        due("drops(0, 0)", x.drops(0, 0), 0);
        due("widths(0, 9)", x.widths(0, 9), 40);
        due("count(2)", x.count(2), 60);
        int[][] wrong = {{0, 8}, {0, 41}, {2, 20}, {-1, 20}, {1, LOWEST}, {1, FARTHEST}};
        for (int[] w : wrong) {
            due("widths(" + w[0] + ", " + w[1] + ")", x.widths(w[0], w[1]), BAD);
        }
        dueTold(x, 6, 0, 1, 6);
    }

    private static void promise5Sets() {
        FacingPages x = begin("5");
        int[] first = {8, 2, 1};
        int[] from = {2, 1, 0};
        int[] to = {12, 3, 9};
        for (int what = 0; what < 3; what++) {
            due("sets to the least", x.sets(what, from[what]), first[what]);
            due("sets to the most", x.sets(what, to[what]), from[what]);
            due("sets below", x.sets(what, from[what] - 1), BAD);
            due("sets above", x.sets(what, to[what] + 1), BAD);
            due("told", x.told(5 + what), to[what]);
        }
        due("sets(-1, 2)", x.sets(-1, 2), BAD);
        due("sets(3, 2)", x.sets(3, 2), BAD);
        due("sets(0, lowest)", x.sets(0, LOWEST), BAD);
        dueTold(x, 9, 0, 0, 6);
    }

    private static void promise6Ties() {
        FacingPages x = begin("6", "a1;a1;a1;a1;b1;b1;b1;");
        int[][] wrong = {{4, 0, 1}, {0, 3, 1}, {-1, 0, 1}, {0, -1, 1}, {0, 0, 0}, {0, 0, 10}, {FARTHEST, LOWEST, 1}};
        for (int[] w : wrong) {
            due("ties(" + w[0] + ", " + w[1] + ", " + w[2] + ")", x.ties(w[0], w[1], w[2]), BAD);
        }
        for (int i = 0; i < 10; i++) {
            due("ties(" + i / 3 + ", " + i % 3 + ")", x.ties(i / 3, i % 3, i % 9 + 1), i);
        }
        due("the same again, of other weight", x.ties(1, 1, 9), NO);
        due("an eleventh", x.ties(3, 1, 1), FULL);
        due("an eleventh of weight 10", x.ties(3, 1, 10), BAD);
        due("the same again of weight 0", x.ties(1, 1, 0), BAD);
        due("count(4)", x.count(4), 10);
        dueTold(x, 9, 1, 1, 6);
    }

    private static void promise7Unties() {
        FacingPages x = begin("7", "a1;a1;b1;b1;t 0 0 1;t 0 1 2;t 1 1 3;");
        due("unties(3)", x.unties(3), BAD);
        due("unties(-1)", x.unties(-1), BAD);
        due("unties(1)", x.unties(1), 2);
        due("tie(1, 0)", x.tie(1, 0), 1);
        due("tie(1, 1)", x.tie(1, 1), 1);
        due("tie(1, 2)", x.tie(1, 2), 3);
        due("ties(0, 1, 4) anew", x.ties(0, 1, 4), 2);
        due("unties(2)", x.unties(2), 2);
        due("unties(0)", x.unties(0), 1);
        due("unties(0)", x.unties(0), 0);
        due("unties(0)", x.unties(0), BAD);
        dueTold(x, 3, 0, 0, 6);
    }

    private static void promise8Of() {
        FacingPages x = begin("8", "w 0 9;h 4;l 2;a 9 9;a 9 9 9 9 9;b 5;");
        int[][] want = {{2, 2, 0, 0, 0}, {5, 5, 2, 0, 1}};
        for (int p = 0; p < 2; p++) {
            for (int what = 0; what < 5; what++) {
                due("of(0, " + p + ", " + what + ")", x.of(0, p, what), want[p][what]);
            }
        }
        due("of(1, 0, 0)", x.of(1, 0, 0), 1);
        due("sets(0, 2)", x.sets(0, 2), 4);
        due("sets(1, 3)", x.sets(1, 3), 2);
        due("no layout", x.of(0, 1, 3), NONE);
        due("no layout", x.of(0, 1, 4), NONE);
        due("no layout, the other side", x.of(1, 0, 3), NONE);
        due("of(0, 1, 2)", x.of(0, 1, 2), 2);
        int[][] wrong = {{2, 0, 0}, {-1, 0, 0}, {0, 2, 0}, {0, -1, 0}, {0, 0, 5}, {0, 0, -1}, {1, 1, 0}};
        for (int[] w : wrong) {
            due("of(" + w[0] + ", " + w[1] + ", " + w[2] + ")", x.of(w[0], w[1], w[2]), BAD);
        }
        dueTold(x, 7, 0, 0, 3);
    }

    private static void promise9Word() {
        FacingPages x = begin("9", "w 0 10;a 4 5 1 8 1 9 9;");
        int[] lengths = {4, 5, 1, 8, 1, 9, 9};
        int[] lines = {0, 0, 1, 1, 2, 3, 4};
        for (int k = 0; k < 7; k++) {
            due("word(0, 0, " + k + ", 0)", x.word(0, 0, k, 0), lengths[k]);
            due("word(0, 0, " + k + ", 1)", x.word(0, 0, k, 1), lines[k]);
        }
        due("widths(0, 11)", x.widths(0, 11), 10);
        due("9 goes behind 1 now", x.word(0, 0, 5, 1), 2);
        int[][] wrong = {{0, 0, 7, 0}, {0, 0, -1, 0}, {0, 1, 0, 0}, {0, -1, 0, 0}, {2, 0, 0, 0}, {-1, 0, 0, 0},
            {0, 0, 0, 2}, {0, 0, 0, -1}, {1, 0, 0, 0}, {0, 0, FARTHEST, 1}};
        for (int[] w : wrong) {
            due("word(" + w[0] + ", " + w[1] + ", " + w[2] + ", " + w[3] + ")", x.word(w[0], w[1], w[2], w[3]), BAD);
        }
        dueTold(x, 10, 0, 0, 2);
    }

    private static void promise10Tie() {
        FacingPages x = begin("10", "a1;a1;a1;b1;b1;b1;", "t 0 2 5;t 1 1 2;t 2 0 2;t 0 0 1;t 2 2 1;");
        int[][] want = {{0, 2, 5, 1, 2}, {1, 1, 2, 0, 2}, {2, 0, 2, 0, 2}, {0, 0, 1, 1, 0}, {2, 2, 1, 1, 0}};
        for (int i = 0; i < 5; i++) {
            for (int what = 0; what < 5; what++) {
                due("tie(" + i + ", " + what + ")", x.tie(i, what), want[i][what]);
            }
        }
        due("tie(5, 0)", x.tie(5, 0), BAD);
        due("tie(-1, 0)", x.tie(-1, 0), BAD);
        due("tie(0, 5)", x.tie(0, 5), BAD);
        due("tie(0, -1)", x.tie(0, -1), BAD);
        dueTold(x, 4, 0, 0, 2);
    }

    private static void promise10Kept() {
        FacingPages x = begin("10", "a1;a1;a1;b1;b1;b1;", "t 0 2 4;t 1 0 2;t 2 1 2;");
        due("as heavy, but more of them", x.count(6), 6);
        due("their weight", x.count(7), 4);
        x = begin("10", "a1;a1;a1;b1;b1;b1;", "t 0 1 3;t 1 0 3;");
        due("as heavy, as many: the least bits", x.count(6), 1);
        x = begin("10", "a1;a1;a1;b1;b1;b1;", "t 0 1 3;t 1 0 4;t 1 1 1;");
        due("the heaviest", x.count(6), 6);
        due("their weight", x.count(7), 5);
        x = begin("10", "a1;a1;a1;a1;b1;b1;b1;b1;", "t 0 1 2;t 1 0 2;t 2 3 2;t 3 2 2;");
        due("of four pairs the least bits", x.count(6), 5);
        x = begin("10", "a1;a1;b1;b1;", "t 0 0 1;t 0 1 1;t 1 1 1;");
        due("one end in common is no crossing", x.count(6), 7);
        due("no pairs", x.count(5), 0);
    }

    private static void promise11Crossing() {
        FacingPages x = begin("11", "a1;a1;a1;b1;b1;b1;", "t 2 0 1;t 0 0 1;t 0 1 1;t 1 2 1;t 1 1 1;t 2 1 1;");
        int[][] pairs = {{0, 2}, {0, 3}, {0, 4}, {3, 5}};
        for (int n = 0; n < pairs.length; n++) {
            due("crossing(" + n + ", 0)", x.crossing(n, 0), pairs[n][0]);
            due("crossing(" + n + ", 1)", x.crossing(n, 1), pairs[n][1]);
        }
        due("count(5)", x.count(5), 4);
        due("crossing(4, 0)", x.crossing(4, 0), NONE);
        due("crossing(farthest, 1)", x.crossing(FARTHEST, 1), NONE);
        due("crossing(-1, 0)", x.crossing(-1, 0), BAD);
        due("crossing(lowest, 1)", x.crossing(LOWEST, 1), BAD);
        due("crossing(0, 2)", x.crossing(0, 2), BAD);
        due("crossing(9, -1)", x.crossing(9, -1), BAD);
        dueTold(x, 4, 0, 0, 2);
    }

    private static void promise12Lawful() {
        FacingPages x = begin("12", "w 0 9;a 9 9 9 9 9;a 9 9 9;a 9;");
        dueLawful(x, 1, "1111111111");
        dueLawful(x, 2, "1011010011");
        dueLawful(x, 3, "1000010011");
        due("drops(0, 0)", x.drops(0, 0), 0);
        dueLawful(x, 3, "10011");
        due("lawful(0, 5)", x.lawful(0, 5), BAD);
        due("lawful(0, -1)", x.lawful(0, -1), BAD);
        due("lawful(1, 0)", x.lawful(1, 0), 1);
        due("lawful(1, 1)", x.lawful(1, 1), BAD);
        due("lawful(2, 0)", x.lawful(2, 0), BAD);
        due("lawful(-1, 0)", x.lawful(-1, 0), BAD);
        due("lawful(0, farthest)", x.lawful(0, FARTHEST), BAD);
        dueTold(x, 6, 0, 0, 6);
    }

    private static void dueLawful(FacingPages x, int least, String want) {
        x.sets(1, least);
        for (int b = 0; b < want.length(); b++) {
            due("LEAST " + least + ", lawful(0, " + b + ")", x.lawful(0, b), want.charAt(b) - '0');
        }
    }

    private static void promise13Opening() {
        FacingPages x = begin("13", "w 0 9;w 1 9;h 4;a 9 9 9 9 9;b 9 9 9 9 9;");
        dueOpening(x, 0, 0, 3, 0, 3, 2);
        dueOpening(x, 1, 3, 2, 3, 2, 0);
        dueOpening(x, 2, NONE, NONE, NONE, NONE, NONE);
        due("sets(0, 5)", x.sets(0, 5), 4);
        dueOpening(x, 0, 0, 5, 0, 5, 0);
        due("sets(1, 3)", x.sets(1, 3), 2);
        due("sets(0, 4)", x.sets(0, 4), 5);
        dueOpening(x, 0, NONE, NONE, NONE, NONE, NONE);
        due("opening(-1, 0)", x.opening(-1, 0), BAD);
        due("opening(0, 5)", x.opening(0, 5), BAD);
        due("opening(0, -1)", x.opening(0, -1), BAD);
        due("opening(9, 9)", x.opening(9, 9), BAD);
        due("opening(farthest, 4)", x.opening(FARTHEST, 4), NONE);
        dueTold(x, 4, 0, 0, 4);
        x = begin("13", "w 0 9;h 2;l 1;s 3;a 9 9 9 9 9;");
        dueOpening(x, 0, 0, 2, 0, 0, 16);
        dueOpening(x, 1, 2, 1, 0, 0, 8);
        dueOpening(x, 2, 3, 2, 0, 0, 0);
        due("1, 1, 1, 2 costs as much, but in one opening more", x.count(8), 3);
        due("count(9)", x.count(9), 24);
    }

    /** The TIE makes the last OPENING begin with PARAGRAPH 3; the three LINES ahead fill two, of equal COST either way. */
    private static void promise13OfEqualsTheMostFirst() {
        FacingPages x = begin("13", "w 0 9;w 1 9;h 2;a 9;a 9;a 9;a 9 9;b 9 9;t 3 0 1;");
        dueOpening(x, 0, 0, 2, 0, 0, 8);
        dueOpening(x, 1, 2, 1, 0, 0, 6);
        dueOpening(x, 2, 3, 2, 0, 2, 0);
        due("count(9)", x.count(9), 14);
        x = begin("13", "w 0 9;w 1 9;h 2;b 9;b 9;b 9;b 9 9;a 9 9;t 0 3 1;");
        dueOpening(x, 0, 0, 0, 0, 2, 8);
        dueOpening(x, 1, 0, 0, 2, 1, 6);
        dueOpening(x, 2, 0, 2, 3, 2, 0);
    }

    private static void promise13InStep() {
        FacingPages x = begin("13", "w 0 9;w 1 9;h 2;s 4;a 9;a 9;a 9;b 9;b 9;b 9;");
        dueOpening(x, 0, 0, 2, 0, 2, 0);
        due("ties(1, 2, 1)", x.ties(1, 2, 1), 0);
        dueOpening(x, 0, 0, 1, 0, 1, 2);
        dueOpening(x, 1, 1, 2, 1, 2, 0);
        due("of(0, 1, 3)", x.of(0, 1, 3), 1);
        due("of(1, 2, 3)", x.of(1, 2, 3), 1);
        due("a tie that crosses, heavier", x.ties(2, 0, 2), 1);
        dueOpening(x, 0, 0, 1, 0, 0, 9);
        dueOpening(x, 1, 1, 2, 0, 2, 0);
        dueOpening(x, 2, 3, 0, 2, 1, 0);
        due("of(0, 2, 3)", x.of(0, 2, 3), 1);
        due("of(1, 0, 3)", x.of(1, 0, 3), 1);
    }

    private static void promise14Count() {
        FacingPages x = begin("14", "w 0 9;w 1 9;h 4;a 9 9;a 9 9 9;b 9 9 9 9 9;", "b 1;t 0 1 3;t 1 0 4;t 1 1 5;");
        int[] want = {2, 2, 5, 6, 3, 1, 6, 9};
        for (int what = 0; what < want.length; what++) {
            due("count(" + what + ")", x.count(what), want[what]);
        }
        due("without a layout 8", x.count(8), NONE);
        due("without a layout 9", x.count(9), NONE);
        due("unties(0)", x.unties(0), 2);
        due("unties(1)", x.unties(1), 1);
        due("count(6)", x.count(6), 1);
        due("count(8)", x.count(8), 3);
        due("count(9)", x.count(9), 24 + 2);
        due("count(10)", x.count(10), BAD);
        due("count(-1)", x.count(-1), BAD);
        dueTold(x, 2, 0, 0, 4);
    }

    private static void promise15Type() {
        FacingPages x = begin("15");
        due("type(-1)", x.type(-1), BAD);
        due("type(128)", x.type(128), BAD);
        due("type(lowest)", x.type(LOWEST), BAD);
        for (int i = 1; i <= 120; i++) {
            due("type", x.type(i % 2 == 0 ? 0 : 127), i);
        }
        due("one more", x.type(32), FULL);
        due("one more, and wrong", x.type(128), BAD);
        due("told(8)", x.told(8), 120);
        dueTold(x, 4, 0, 1, 0);
    }

    private static void promise16Clear() {
        FacingPages x = begin("16");
        due("clear()", x.clear(), 0);
        x.type('h');
        x.type('3');
        due("clear()", x.clear(), 2);
        due("told(8)", x.told(8), 0);
        due("clear()", x.clear(), 0);
        due("does()", x.does(), -10);
        due("type", x.type(';'), 1);
        dueTold(x, 0, 0, 0, 0);
    }

    private static void promise17Does() {
        FacingPages x = begin("17");
        due("all kinds", tell(x, " a3 5 2 ; b 09 9;t0 0 4;w 1 13 ;h12;l 1;s0;  "), 7);
        due("count(0)", x.count(0), 1);
        due("of(0, 0, 0)", x.of(0, 0, 0), 3);
        due("word(0, 0, 1, 0)", x.word(0, 0, 1, 0), 5);
        due("word(1, 0, 0, 0)", x.word(1, 0, 0, 0), 9);
        due("tie(0, 2)", x.tie(0, 2), 4);
        int[] told = {0, 0, 0, 20, 13, 12, 1, 0, 45, 1};
        for (int what = 0; what < 10; what++) {
            due("told(" + what + ")", x.told(what), told[what]);
        }
        due("the text stays, but the tie is there already", x.does(), -1002);
        due("count(0)", x.count(0), 1);
        due("told(9)", x.told(9), 1);
        due("clear()", x.clear(), 45);
        due("twelve", tell(x, "b 1 2 3 4 5 6 7 8 9 1 2 3;"), 1);
        due("of(1, 1, 0)", x.of(1, 1, 0), 12);
        due("nothing becomes other, a state is left", tell(x, "h12;"), 1);
        due("told(9)", x.told(9), 3);
        due("again", x.does(), 1);
        due("told(9)", x.told(9), 4);
    }

    private static void promise17Faults() {
        FacingPages x = begin("17");
        String[] texts = {"", "   ", ";", "h", "h 4", "h4; l", "h4;;", "h4;9", "c 1;", "H 4;", "h 123;", "a 1 123;",
            "h 1 2;", "w 0;", "t 0 0;", "t 0 0 1 1;", "a;", "a ;", "aa 1;", "a 1 b;", "h-4;", "h4.", "h4;a 1 2",
            "a 1 2 3 4 5 6 7 8 9 1 2 3 4;", "a 1 2 3 4 5 6 7 8 9 1 2 344;", "a 10; h x;", "h\t4;", "1h;", "t0 0 1;w"};
        int[] faults = {0, 3, 0, 1, 3, 5, 3, 3, 0, 0, 4, 6, 4, 3, 5, 8, 1, 2, 1, 4, 1, 2, 8, 26, 26, 8, 1, 0, 8};
        for (int i = 0; i < texts.length; i++) {
            due("does() of '" + texts[i] + "'", tell(x, texts[i]), -10 - faults[i]);
        }
        x.clear();
        for (int i = 0; i < 120; i++) {
            x.type(' ');
        }
        due("120 blanks", x.does(), -130);
        due("count(0)", x.count(0), 0);
        dueTold(x, 0, 0, 0, 0);
    }

    private static void promise17OrderThatEndsAll() {
        FacingPages x = begin("17", "a1;b1;");
        String[] texts = {"a 0;", "a 1 2 10;", "h4;b 99;", "h 1;", "h 13;", "h2;l 0;", "l 4;", "s 10;", "w 2 20;",
            "w 0 8;", "w 1 41;", "t 1 0 1;", "t 0 1 1;", "t 0 0 0;", "t 0 0 10;", "t 0 0 1;h3;t 0 0 2;",
            "a1;a1;a1;a1;a1;a1;a1;a1;"};
        int[] orders = {0, 0, 1, 0, 0, 1, 0, 0, 0, 0, 0, 0, 0, 0, 0, 2, 7};
        for (int i = 0; i < texts.length; i++) {
            due("does() of '" + texts[i] + "'", tell(x, texts[i]), -1000 - orders[i]);
        }
        due("count(0)", x.count(0), 1);
        due("count(4)", x.count(4), 0);
        due("told(5)", x.told(5), 8);
        dueTold(x, 0, 0, 0, 1);
        due("an order of what an earlier one made", tell(x, "a1;t 1 0 9;"), 2);
        String lines = "b" + TWELVE_NINES;
        due("sixty lines", tell(x, "w1 9;" + lines + lines + lines + lines), 5);
        due("a line too many", tell(x, "b" + TWELVE_NINES), -1000);
        due("room made first", tell(x, "w1 19;b" + TWELVE_NINES + "b" + TWELVE_NINES), 3);
        due("width then refused", tell(x, "h 3; w1 18;"), -1001);
        due("told(5)", x.told(5), 8);
        dueTold(x, 0, 0, 0, 4);
    }

    private static void promise18Back() {
        FacingPages x = begin("18");
        due("back()", x.back(), NO);
        x.para(0, 3, 1);
        x.para(1, 3, 2);
        x.ties(0, 0, 7);
        x.widths(0, 30);
        x.sets(0, 8);
        due("told(9)", x.told(9), 5);
        x.type('h');
        x.para(2, 0, 0);
        long before = x.digest();
        x.drops(0, 0);
        due("count(4)", x.count(4), 0);
        due("back()", x.back(), 5);
        due("all as before", x.digest(), before);
        due("count(4)", x.count(4), 1);
        x.unties(0);
        due("told(9)", x.told(9), 6);
        x.sets(2, 3);
        due("six at most", x.told(9), 6);
        due("back()", x.back(), 5);
        due("told(7)", x.told(7), 1);
        due("back()", x.back(), 4);
        due("back()", x.back(), 3);
        due("told(3)", x.told(3), 30);
        due("back()", x.back(), 2);
        due("told(3)", x.told(3), 20);
        due("back()", x.back(), 1);
        due("count(4)", x.count(4), 0);
        due("back()", x.back(), 0);
        due("the first state is lost", x.count(0), 1);
        due("count(1)", x.count(1), 0);
        due("back()", x.back(), NO);
        due("the text stays", x.told(8), 1);
        dueTold(x, 1, 2, 0, 0);
        due("a text is one state", tell(x, "h4;l1;s0;w0 9;"), 4);
        due("back()", x.back(), 0);
        due("told(5)", x.told(5), 8);
        due("told(3)", x.told(3), 20);
    }

    private static void promise19Told() {
        FacingPages x = begin("19", "w 0 11;w 1 12;h 3;l 1;s 4;a1;b1;t 0 0 1;");
        x.type('x');
        x.ties(0, 0, 1);
        x.back();
        x.back();
        x.count(10);
        int[] want = {1, 2, 0, 20, 20, 8, 2, 1, 1, 0};
        for (int what = 0; what < 10; what++) {
            due("told(" + what + ")", x.told(what), want[what]);
        }
        due("told(10)", x.told(10), BAD);
        due("told(-1)", x.told(-1), BAD);
        due("told(farthest)", x.told(FARTHEST), BAD);
        due("told(0)", x.told(0), 4);
        x = begin("19", "w 0 11;w 1 12;h 3;l 1;s 4;");
        int[] set = {0, 0, 0, 11, 12, 3, 1, 4, 0, 1};
        for (int what = 0; what < 10; what++) {
            due("told(" + what + ")", x.told(what), set[what]);
        }
    }

    private static void promise20Digest() {
        FacingPages x = begin("20", "w 0 9;w 1 9;h 4;a 9 9 9 9 9;b 9 9 9 9 9;t 0 0 6;");
        x.word(0, 0, 9, 0);
        int[] all = {1, 0, 0, 9, 9, 4, 2, 1, 0, 1,
            1, 1, 5, 5, 1, 0, 1, 6, 2, 2,
            5, 5, 0, 0, 1, 5, 5, 0, 0, 1,
            0, 0, 6, 1, 0,
            0, 3, 0, 3, 2, 3, 2, 3, 2, 0};
        long h = 2591;
        for (int v : all) {
            h = 31 * h + v;
        }
        due("digest()", x.digest(), h);
        due("digest() changes nothing", x.digest(), h);
        dueTold(x, 1, 0, 0, 1);
        x = begin("20", "w 0 9;h 2;l 3;a 9 9 9 9;");
        int[] none = {0, 0, 0, 9, 20, 2, 3, 1, 0, 1, 1, 0, 4, 0, 0, 0, 0, 0, -1, -1, 4, 4, 0, -1, -1};
        h = 2591;
        for (int v : none) {
            h = 31 * h + v;
        }
        due("digest() without a layout", x.digest(), h);
    }
}
