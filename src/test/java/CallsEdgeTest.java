/** What promises 1 to 14 say of boundaries, and 'Terms' of STATES and of what is refused: a test for each sentence. */
public final class CallsEdgeTest {
    private static final int NONE = Desk.NONE, BAD = Desk.BAD, NO = Desk.NO, FULL = Desk.FULL;
    private static final int LOWEST = Desk.LOWEST;
    private static final int FARTHEST = Desk.FARTHEST;
    /** Numbers at, about and far beyond every edge of the document. */
    private static final int[] NUMBERS = {LOWEST, LOWEST + 1, -100, -1, 0, 1, 2, 3, 4, 5, 7, 8, 9, 10, 11, 12, 13, 40, 41,
        60, 61, 99, 100, 127, 128, 65536, FARTHEST - 1, FARTHEST};
    private static final String NINES = " 9 9 9 9 9 9 9 9 9 9 9 9;";

    public static void main(String[] args) {
        newObject();
        para();
        paraSeed();
        drops();
        dropsTakesTiesAlong();
        widths();
        sets();
        ties();
        unties();
        of();
        ofWithoutLayout();
        word();
        tie();
        crossing();
        lawful();
        opening();
        count();
        everyGetterForEveryNumber();
        everyChangeForEveryNumber();
        statesSixAtMost();
        stateOfEachCallToldS();
        stateAlsoIfNothingBecomesOther();
        noStateOfOtherCalls();
        noStateIfRefused();
        stateHoldsAllButTextAndRefusals();
        statesBehindAWayBack();
        refusedForTheFirst();
        Check.end();
    }

    private static boolean within(int v, int from, int to) {
        return v >= from && v <= to;
    }

    private static void newObject() {
        Desk d = new Desk("1: As told; no PARAGRAPHS");
        int[] told = {0, 0, 0, 20, 20, 8, 2, 1, 0, 0};
        for (int what = 0; what < 10; what++) {
            d.told(what, told[what]);
            d.count(what, 0);
        }
        for (int s = 0; s < 2; s++) {
            d.of(s, 0, 0, BAD);
            d.word(s, 0, 0, 0, BAD);
            d.drops(s, 0, BAD);
            d.allLawful(s, "1");
        }
        d.tie(0, 0, BAD);
        d.unties(0, BAD);
        d.ties(0, 0, 1, BAD);
        d.crossing(0, 0, NONE);
        d.opening(0, 0, NONE);
        d.clear(0);
        d.does(-10);
        d.back(NO);
        // Each has all for itself.
        d.para(0, 1, 1, 0);
        new Desk("1: another object").count(0, 0);
    }

    private static void para() {
        Desk d = new Desk("2: BAD");
        for (int s = 0; s < 2; s++) {
            d.para(s, 0, 50, BAD);
            d.para(s, 13, 50, BAD);
            d.para(s, -1, 50, BAD);
            d.para(s, LOWEST, 50, BAD);
            d.para(s, FARTHEST, 50, BAD);
        }
        d.para(-1, 1, 50, BAD);
        d.para(2, 1, 50, BAD);
        d.para(LOWEST, 1, 50, BAD);
        d.para(FARTHEST, 1, 50, BAD);
        d.count(0, 0);
        d.count(1, 0);
        d.refusals(14, 0, 0, 0);
    }

    private static void paraSeed() {
        Desk d = new Desk("2: seed 0 .. 99");
        d.para(0, 12, -1, BAD);
        d.para(0, 12, 100, BAD);
        d.para(0, 12, LOWEST, BAD);
        d.para(0, 12, FARTHEST, BAD);
        d.para(0, 12, 0, 0);
        d.para(0, 12, 99, 1);
        d.para(0, 12, 1, 2);
        int[] by0 = {1, 9, 5, 7, 6, 2, 4, 3, 8, 1, 9, 5};
        int[] by1 = {8, 7, 3, 5, 4, 9, 2, 1, 6, 8, 7, 3};
        for (int k = 0; k < 12; k++) {
            d.word(0, 0, k, 0, by0[k]);
            d.word(0, 1, k, 0, by0[k]);
            d.word(0, 2, k, 0, by1[k]);
        }
        d.refusals(4, 0, 0, 3);
    }

    private static void drops() {
        for (int s = 0; s < 2; s++) {
            Desk d = Desk.with("3: PARAGRAPH p of SIDE s goes, numbers behind are one less", "a 1;a 1 2;a 1 2 3;b 1;b 1 2;b 1 2 3;");
            d.drops(s, 3, BAD);
            d.drops(s, -1, BAD);
            d.drops(s, LOWEST, BAD);
            d.drops(s, FARTHEST, BAD);
            d.drops(2, 0, BAD);
            d.drops(-1, 0, BAD);
            d.drops(s, 2, 0);
            d.drops(s, 2, BAD);
            d.of(s, 1, 0, 2);
            d.drops(s, 0, 0);
            d.of(s, 0, 0, 2);
            d.word(s, 0, 1, 0, 2);
            d.drops(s, 0, 0);
            d.drops(s, 0, BAD);
            d.count(s, 0);
            d.count(1 - s, 3);
            d.refusals(8, 0, 0, 4);
        }
    }

    private static void dropsTakesTiesAlong() {
        Desk d = Desk.with("3: with all TIES of it", "a1;a1;b1;b1;", "t 0 0 1;t 0 1 2;t 1 0 3;t 1 1 4;");
        d.drops(0, 0, 2);
        d.count(4, 2);
        d.tie(0, 0, 0);
        d.tie(0, 1, 0);
        d.tie(0, 2, 3);
        d.tie(1, 1, 1);
        d.tie(1, 2, 4);
        d.tie(2, 0, BAD);
        d.back(2);
        d.drops(1, 1, 2);
        d.tie(0, 2, 1);
        d.tie(1, 0, 1);
        d.tie(1, 1, 0);
        d.tie(1, 2, 3);
        d.drops(1, 0, 2);
        d.count(4, 0);
        d.drops(0, 1, 0);
        // All ten go with one.
        d = Desk.with("3: how many TIES went", "a1;a1;b1;b1;b1;b1;b1;b1;b1;b1;", "t 0 0 1;t 0 1 1;t 0 2 1;t 0 3 1;t 0 4 1;t 0 5 1;",
                "t 0 6 1;t 0 7 1;t 1 0 1;t 1 7 1;");
        d.drops(1, 7, 2);
        d.drops(0, 0, 7);
        d.count(4, 1);
        d.tie(0, 0, 0);
    }

    private static void widths() {
        Desk d = new Desk("4: WIDTH of SIDE s becomes v: what it was");
        d.widths(0, 21, 20);
        d.widths(0, 22, 21);
        d.widths(1, 19, 20);
        d.widths(1, 19, 19);
        d.told(3, 22);
        d.told(4, 19);
        d.widths(2, 20, BAD);
        d.widths(-1, 20, BAD);
        d.widths(LOWEST, 20, BAD);
        d.widths(FARTHEST, 20, BAD);
        d.refusals(4, 0, 0, 4);
        // The number is looked at ahead of the LINES.
        d = Desk.with("4: BAD ahead of FULL", "a" + NINES + "a" + NINES + "a" + NINES + "a" + NINES, "a" + NINES + "a 9;");
        d.widths(0, 8, BAD);
        d.widths(0, 9, FULL);
        d.widths(1, 9, 20);
        d.widths(0, 40, 20);
        d.widths(0, 19, 40);
        d.refusals(1, 0, 1, 5);
    }

    private static void sets() {
        Desk d = new Desk("5: HIGH (what 0), LEAST (1), SHARE (2) becomes v: what it was");
        d.sets(0, 3, 8);
        d.sets(1, 3, 2);
        d.sets(2, 3, 1);
        d.sets(0, 4, 3);
        d.sets(1, 2, 3);
        d.sets(2, 5, 3);
        d.told(5, 4);
        d.told(6, 2);
        d.told(7, 5);
        d.sets(-1, 2, BAD);
        d.sets(3, 2, BAD);
        d.sets(LOWEST, 2, BAD);
        d.sets(FARTHEST, 2, BAD);
        // What is fine for one is not for another.
        d.sets(0, 0, BAD);
        d.sets(1, 9, BAD);
        d.sets(2, 12, BAD);
        d.refusals(7, 0, 0, 6);
    }

    private static void ties() {
        Desk d = Desk.with("6: A new TIE: its number. BAD", "a1;a1;a1;b1;b1;");
        d.ties(-1, 0, 5, BAD);
        d.ties(3, 0, 5, BAD);
        d.ties(0, -1, 5, BAD);
        d.ties(0, 2, 5, BAD);
        d.ties(LOWEST, 0, 5, BAD);
        d.ties(0, FARTHEST, 5, BAD);
        d.ties(2, 1, 5, 0);
        d.ties(0, 0, 5, 1);
        d.tie(0, 0, 2);
        d.tie(0, 1, 1);
        d.does("t 3 0 5;", -1000);
        d.does("t 0 2 5;", -1000);
        d.does("t 99 99 5;", -1000);
        d.refusals(6, 0, 0, 3);
        // Of PARAGRAPHS of one SIDE alone there is none.
        d = Desk.with("6: of both SIDES", "a1;");
        d.ties(0, 0, 1, BAD);
    }

    private static void unties() {
        Desk d = Desk.with("7: TIE i goes: how many are left", "a1;b1;b1;b1;t 0 0 1;t 0 1 2;t 0 2 3;");
        d.unties(-1, BAD);
        d.unties(3, BAD);
        d.unties(LOWEST, BAD);
        d.unties(FARTHEST, BAD);
        d.unties(2, 2);
        d.tie(1, 2, 2);
        d.unties(2, BAD);
        d.unties(0, 1);
        d.tie(0, 2, 2);
        d.unties(0, 0);
        d.unties(0, BAD);
        d.refusals(6, 0, 0, 4);
    }

    private static void of() {
        Desk d = Desk.with("8: WORDS, LINES, first LINE, OPENING of it, of its last LINE", "w0 9;w1 9;h2;l1;s0;a 9;a 9 9 9 9 1;b 1;");
        int[][] due = {{1, 1, 0, 0, 0}, {5, 5, 1, 0, 2}};
        for (int p = 0; p < 2; p++) {
            for (int what = 0; what < 5; what++) {
                d.of(0, p, what, due[p][what]);
            }
        }
        for (int s = 0; s < 2; s++) {
            d.of(s, 0, 5, BAD);
            d.of(s, 0, -1, BAD);
            d.of(s, 0, LOWEST, BAD);
            d.of(s, 0, FARTHEST, BAD);
            d.of(s, -1, 0, BAD);
            d.of(s, 2 - s, 0, BAD);
            d.of(s, FARTHEST, 0, BAD);
            d.of(s, LOWEST, 0, BAD);
        }
        d.of(-1, 0, 0, BAD);
        d.of(2, 0, 0, BAD);
        d.refusals(18, 0, 0, 1);
    }

    private static void ofWithoutLayout() {
        Desk d = Desk.with("8: NONE: there is no LAYOUT", "w0 9;h2;l3;a 9 9 9 9;b 1;");
        int[] due = {4, 4, 0, NONE, NONE};
        int[] other = {1, 1, 0, NONE, NONE};
        for (int what = 0; what < 5; what++) {
            d.of(0, 0, what, due[what]);
            d.of(1, 0, what, other[what]);
        }
        d.of(0, 1, 3, BAD);
        d.of(0, 0, 5, BAD);
        d.refusals(2, 0, 0, 1);
    }

    private static void word() {
        Desk d = Desk.with("9: BAD: it has no such WORD, too", "w0 9;a 9;a 1 2 3 4 5 6 7 8 9 1 2 3;b 4 5;");
        d.word(0, 0, 0, 0, 9);
        d.word(0, 0, 1, 0, BAD);
        d.word(0, 1, 11, 0, 3);
        d.word(0, 1, 11, 1, 7);
        d.word(0, 1, 12, 0, BAD);
        d.word(0, 1, -1, 0, BAD);
        d.word(0, 1, LOWEST, 0, BAD);
        d.word(0, 1, FARTHEST, 1, BAD);
        d.word(0, 2, 0, 0, BAD);
        d.word(0, -1, 0, 0, BAD);
        d.word(1, 0, 1, 0, 5);
        d.word(1, 0, 2, 0, BAD);
        d.word(1, 1, 0, 0, BAD);
        d.word(2, 0, 0, 0, BAD);
        d.word(-1, 0, 0, 0, BAD);
        d.word(0, 0, 0, 2, BAD);
        d.word(0, 0, 0, -1, BAD);
        d.word(0, 0, 0, FARTHEST, BAD);
        d.refusals(14, 0, 0, 1);
    }

    private static void tie() {
        Desk d = Desk.with("10: p, q, WEIGHT, whether KEPT, how many it CROSSES", "a1;a1;a1;b1;b1;b1;", "t 2 0 9;t 0 1 1;t 1 2 1;t 1 1 1;");
        int[][] due = {{2, 0, 9, 1, 3}, {0, 1, 1, 0, 1}, {1, 2, 1, 0, 1}, {1, 1, 1, 0, 1}};
        for (int i = 0; i < 4; i++) {
            for (int what = 0; what < 5; what++) {
                d.tie(i, what, due[i][what]);
            }
        }
        d.tie(4, 0, BAD);
        d.tie(-1, 0, BAD);
        d.tie(LOWEST, 0, BAD);
        d.tie(FARTHEST, 0, BAD);
        d.tie(0, 5, BAD);
        d.tie(0, -1, BAD);
        d.tie(0, LOWEST, BAD);
        d.tie(0, FARTHEST, BAD);
        d.refusals(8, 0, 0, 2);
        // Each CROSSES all others.
        d = Desk.with("10: how many TIES it CROSSES", "a1;a1;a1;a1;a1;a1;a1;a1;b1;b1;b1;b1;b1;b1;b1;b1;",
                "t 0 7 1;t 1 6 1;t 2 5 1;t 3 4 1;t 4 3 1;t 5 2 1;t 6 1 1;t 7 0 1;");
        for (int i = 0; i < 8; i++) {
            d.tie(i, 4, 7);
            d.tie(i, 3, i == 0 ? 1 : 0);
        }
        d.count(5, 28);
        d.crossing(27, 0, 6);
        d.crossing(27, 1, 7);
        d.crossing(28, 0, NONE);
    }

    private static void crossing() {
        Desk d = Desk.with("11: NONE: not so many. BAD: n below 0, too", "a1;a1;a1;b1;b1;b1;", "t 2 0 1;t 1 1 1;t 0 2 1;t 0 0 1;");
        int[][] pairs = {{0, 1}, {0, 2}, {1, 2}};
        for (int n = 0; n < 3; n++) {
            d.crossing(n, 0, pairs[n][0]);
            d.crossing(n, 1, pairs[n][1]);
        }
        d.crossing(3, 0, NONE);
        d.crossing(3, 1, NONE);
        d.crossing(FARTHEST, 0, NONE);
        d.crossing(-1, 0, BAD);
        d.crossing(-1, 1, BAD);
        d.crossing(LOWEST, 0, BAD);
        d.crossing(0, 2, BAD);
        d.crossing(0, -1, BAD);
        d.crossing(3, 2, BAD);
        d.crossing(FARTHEST, FARTHEST, BAD);
        d.refusals(7, 0, 0, 2);
    }

    private static void lawful() {
        Desk d = Desk.with("12: BAD: b below 0, or more than its LINES", "w0 9;w1 9;l1;a 9 9 9;b 9;");
        d.allLawful(0, "1111");
        d.allLawful(1, "11");
        for (int s = 0; s < 2; s++) {
            d.lawful(s, -1, BAD);
            d.lawful(s, LOWEST, BAD);
            d.lawful(s, FARTHEST, BAD);
        }
        d.lawful(-1, 0, BAD);
        d.lawful(2, 0, BAD);
        d.lawful(LOWEST, 0, BAD);
        d.lawful(FARTHEST, 0, BAD);
        d.refusals(12, 0, 0, 1);
    }

    private static void opening() {
        Desk d = Desk.with("13: NONE: not so many. BAD: k below 0, too", "w0 9;w1 9;h2;l1;a 9 9 9;b 9 9 9;");
        int[][] due = {{0, 2, 0, 2, 0}, {2, 1, 2, 1, 0}, {NONE, NONE, NONE, NONE, NONE}};
        for (int k = 0; k < 3; k++) {
            for (int what = 0; what < 5; what++) {
                d.opening(k, what, due[k][what]);
            }
        }
        d.opening(120, 0, NONE);
        d.opening(121, 0, NONE);
        d.opening(FARTHEST, 0, NONE);
        d.opening(-1, 0, BAD);
        d.opening(LOWEST, 0, BAD);
        d.opening(0, 5, BAD);
        d.opening(0, -1, BAD);
        d.opening(FARTHEST, FARTHEST, BAD);
        d.refusals(5, 0, 0, 1);
        d = Desk.with("13: NONE: there is no LAYOUT", "w0 9;h2;l3;a 9 9 9;");
        d.noLayout();
        d.opening(0, 5, BAD);
        d.opening(-1, 0, BAD);
    }

    private static void count() {
        Desk d = new Desk("14: BAD");
        d.count(-1, BAD);
        d.count(10, BAD);
        d.count(LOWEST, BAD);
        d.count(FARTHEST, BAD);
        d.refusals(4, 0, 0, 0);
        // Each SIDE by itself, all unlike.
        d = Desk.with("14: each by its number", "w0 9;w1 9;h5;l1;s9;a 9 9;b 9 9 9;b 9;b 9;t 0 2 3;t 0 1 4;");
        int[] due = {1, 3, 2, 5, 2, 0, 3, 7, 1, 0};
        for (int what = 0; what < 10; what++) {
            d.count(what, due[what]);
        }
    }

    /** Refused just if a number is not as told, whatever the numbers are; each object takes a part of them. */
    private static void everyGetterForEveryNumber() {
        String sentence = "Refused (getters, too): BAD a number is not as told";
        String book = "w0 9;w1 9;h2;a 9;a 9 9;b 9 9 9;t 0 0 1;t 1 0 2;";
        for (int a : NUMBERS) {
            FacingPages x = told(book);
            int bad = 0;
            for (int b : NUMBERS) {
                bad += due(sentence, "of(" + a + ", " + b + ", 1)", x.of(a, b, 1), isSide(a) && within(b, 0, 1 - a));
                bad += due(sentence, "of(0, " + a + ", " + b + ")", x.of(0, a, b), within(a, 0, 1) && within(b, 0, 4));
                bad += due(sentence, "word(0, 1, " + a + ", " + b + ")", x.word(0, 1, a, b), within(a, 0, 1) && within(b, 0, 1));
                bad += due(sentence, "word(" + a + ", " + b + ", 0, 0)", x.word(a, b, 0, 0), isSide(a) && within(b, 0, 1 - a));
                bad += due(sentence, "tie(" + a + ", " + b + ")", x.tie(a, b), within(a, 0, 1) && within(b, 0, 4));
                bad += due(sentence, "crossing(" + a + ", " + b + ")", x.crossing(a, b), a >= 0 && within(b, 0, 1));
                bad += due(sentence, "lawful(" + a + ", " + b + ")", x.lawful(a, b), isSide(a) && within(b, 0, 3));
                bad += due(sentence, "opening(" + a + ", " + b + ")", x.opening(a, b), a >= 0 && within(b, 0, 4));
            }
            bad += due(sentence, "count(" + a + ")", x.count(a), within(a, 0, 9));
            bad += due(sentence, "told(" + a + ")", x.told(a), within(a, 0, 9));
            Check.due(sentence + ": how often, of " + a, x.told(0), bad);
            Check.due(sentence + ": STATES", x.told(9), 1);
        }
    }

    private static void everyChangeForEveryNumber() {
        String sentence = "Refused: BAD a number is not as told";
        String book = "a 9;a 9 9;b 9 9 9;t 0 0 1;t 1 0 2;";
        for (int a : NUMBERS) {
            FacingPages x = told(book);
            int bad = 0;
            for (int b : NUMBERS) {
                bad += dueAndBack(sentence, "para(1, " + a + ", " + b + ")", x, x.para(1, a, b), within(a, 1, 12) && within(b, 0, 99));
                bad += dueAndBack(sentence, "para(" + a + ", " + b + ", 5)", x, x.para(a, b, 5), isSide(a) && within(b, 1, 12));
                bad += dueAndBack(sentence, "drops(" + a + ", " + b + ")", x, x.drops(a, b), isSide(a) && within(b, 0, 1 - a));
                bad += dueAndBack(sentence, "widths(" + a + ", " + b + ")", x, x.widths(a, b), isSide(a) && within(b, 9, 40));
                bad += dueAndBack(sentence, "sets(" + a + ", " + b + ")", x, x.sets(a, b), isSetting(a, b));
            }
            bad += dueAndBack(sentence, "ties(" + a + ", 0, 0)", x, x.ties(a, 0, 0), false);
            bad += dueAndBack(sentence, "unties(" + a + ")", x, x.unties(a), within(a, 0, 1));
            bad += due(sentence, "type(" + a + ")", x.type(a), within(a, 0, 127));
            Check.due(sentence + ": how often, of " + a, x.told(0), bad);
            Check.due(sentence + ": PARAGRAPHS", x.count(0) * 10 + x.count(1), 21);
            Check.due(sentence + ": TIES", x.count(4), 2);
        }
        for (int a : NUMBERS) {
            for (int b : new int[] {LOWEST, -1, 0, 1, 2, FARTHEST}) {
                FacingPages x = told("a 9;a 9;b 9;b 9;");
                boolean fine = within(a, 0, 1) && within(b, 0, 1);
                due(sentence, "ties(" + a + ", " + b + ", 1)", x.ties(a, b, 1), fine);
                x = told("a 9;a 9;b 9;b 9;");
                due(sentence, "ties(1, " + b + ", " + a + ")", x.ties(1, b, a), within(b, 0, 1) && within(a, 1, 9));
            }
        }
    }

    private static boolean isSide(int s) {
        return s == 0 || s == 1;
    }

    private static boolean isSetting(int what, int v) {
        return what == 0 && within(v, 2, 12) || what == 1 && within(v, 1, 3) || what == 2 && within(v, 0, 9);
    }

    private static FacingPages told(String text) {
        FacingPages x = new FacingPages();
        for (char c : text.toCharArray()) {
            x.type(c);
        }
        x.does();
        return x;
    }

    /** 1 for one that is refused, so that they can be counted. */
    private static int due(String sentence, String call, int got, boolean fine) {
        Check.due(sentence + ": " + call + (fine ? " is not refused" : " is refused"), got == BAD ? 1 : 0, fine ? 0 : 1);
        return fine ? 0 : 1;
    }

    private static int dueAndBack(String sentence, String call, FacingPages x, int got, boolean fine) {
        if (fine) {
            x.back();
        }
        return due(sentence, call, got, fine);
    }

    // ---- STATES

    private static void statesSixAtMost() {
        Desk d = new Desk("STATES: 6 at most, older ones lost");
        for (int v = 1; v <= 9; v++) {
            d.widths(0, 20 + v, 19 + v);
            d.told(9, Math.min(v, 6));
        }
        for (int left = 5; left >= 0; left--) {
            d.back(left);
            d.told(9, left);
            d.told(3, 23 + left);
        }
        d.back(NO);
        d.told(3, 23);
        d.refusals(0, 1, 0, 0);
        // Just six are all there.
        d = new Desk("STATES: 6 at most");
        for (int v = 1; v <= 6; v++) {
            d.widths(1, 20 + v, 19 + v);
        }
        for (int left = 5; left >= 0; left--) {
            d.back(left);
        }
        d.told(4, 20);
        d.back(NO);
    }

    private static void stateOfEachCallToldS() {
        Desk d = new Desk("each call told S leaves one");
        d.para(0, 1, 0, 0);
        d.told(9, 1);
        d.para(1, 1, 0, 0);
        d.ties(0, 0, 1, 0);
        d.told(9, 3);
        d.unties(0, 0);
        d.told(9, 4);
        d.drops(0, 0, 0);
        d.told(9, 5);
        d.back(4);
        d.count(0, 1);
        d.count(4, 0);
        d.back(3);
        d.count(4, 1);
        d.back(2);
        d.count(4, 0);
        d.widths(1, 33, 20);
        d.told(9, 3);
        d.sets(2, 7, 1);
        d.told(9, 4);
        d.does("h3;l1;", 2);
        d.told(9, 5);
        d.back(4);
        d.told(5, 8);
        d.told(6, 2);
        d.told(7, 7);
        d.back(3);
        d.told(7, 1);
        d.back(2);
        d.told(4, 20);
        d.back(1);
        d.count(1, 0);
        d.back(0);
        d.count(0, 0);
    }

    private static void stateAlsoIfNothingBecomesOther() {
        Desk d = new Desk("also if nothing becomes other by it");
        d.widths(0, 20, 20);
        d.told(9, 1);
        d.sets(0, 8, 8);
        d.told(9, 2);
        d.sets(1, 2, 2);
        d.told(9, 3);
        d.does("s1;w1 20;", 2);
        d.told(9, 4);
        for (int left = 3; left >= 0; left--) {
            d.back(left);
        }
        d.back(NO);
    }

    private static void noStateOfOtherCalls() {
        Desk d = Desk.with("only a call told S leaves one", "a1;b1;t 0 0 1;");
        d.of(0, 0, 4, 0);
        d.word(0, 0, 0, 1, 0);
        d.tie(0, 3, 1);
        d.crossing(0, 0, NONE);
        d.lawful(0, 0, 1);
        d.opening(0, 0, 0);
        d.count(9, 0);
        d.type('h', 1);
        d.clear(1);
        d.digest();
        d.told(9, 1);
        d.back(0);
        d.told(9, 0);
    }

    private static void noStateIfRefused() {
        Desk d = Desk.with("each call told S, if it is not refused", "a1;b1;t 0 0 1;");
        d.para(0, 0, 0, BAD);
        d.drops(0, 1, BAD);
        d.widths(0, 8, BAD);
        d.sets(0, 1, BAD);
        d.ties(0, 0, 1, NO);
        d.ties(0, 1, 1, BAD);
        d.unties(1, BAD);
        d.does("h4", -12);
        d.does("h4;h1;", -1001);
        d.refusals(6, 1, 0, 1);
        d.back(0);
        d.count(0, 0);
        d.told(5, 8);
    }

    private static void stateHoldsAllButTextAndRefusals() {
        Desk d = Desk.with("to go back to (all but THE TEXT and how often refused)", "w0 9;w1 10;h4;l1;s3;a 9 9 1;b 3 4;b 5;t 0 1 7;t 0 0 2;");
        long before = d.digest();
        d.does("w0 30;w1 31;h9;l3;s8;a 1;b 2 2;t 1 2 1;", 8);
        d.clear(39);
        d.back(1);
        d.same("digest() as before", d.digest(), before);
        d.word(0, 0, 2, 0, 1);
        d.word(1, 0, 1, 0, 4);
        d.tie(0, 2, 7);
        d.drops(1, 0, 1);
        d.type('h', 1);
        d.para(9, 9, 9, BAD);
        d.para(9, 9, 9, BAD);
        d.ties(0, 0, 1, NO);
        d.back(1);
        d.told(8, 1);
        d.refusals(2, 1, 0, 1);
        d.count(4, 2);
        d.tie(1, 1, 0);
        d.clear(1);
        d.back(0);
        d.clear(0);
        d.refusals(2, 1, 0, 0);
        d.count(0, 0);
        d.count(4, 0);
        d.told(3, 20);
    }

    private static void statesBehindAWayBack() {
        Desk d = new Desk("A STATE back: what came behind it is gone, new ones come");
        d.widths(0, 21, 20);
        d.widths(0, 22, 21);
        d.back(1);
        d.widths(0, 30, 21);
        d.told(9, 2);
        d.back(1);
        d.told(3, 21);
        d.back(0);
        d.told(3, 20);
        d.back(NO);
        d.back(NO);
        d.widths(0, 31, 20);
        d.back(0);
        d.told(3, 20);
        d.refusals(0, 2, 0, 0);
    }

    private static void refusedForTheFirst() {
        Desk d = Desk.with("Refused, the first of: BAD, NO, FULL", "a1;a1;a1;a1;b1;b1;b1;");
        for (int i = 0; i < 10; i++) {
            d.ties(i % 4, i / 4, 1, i);
        }
        d.ties(0, 0, 1, NO);
        d.ties(0, 0, 0, BAD);
        d.ties(3, 2, 1, FULL);
        d.ties(3, 2, 10, BAD);
        d.ties(4, 2, 1, BAD);
        d.refusals(3, 1, 1, 6);
        d.does("a1;a1;a1;a1;", 4);
        d.para(0, 1, 0, FULL);
        d.para(0, 1, 100, BAD);
        d.para(0, 13, 0, BAD);
        d.refusals(5, 1, 2, 6);
    }
}
