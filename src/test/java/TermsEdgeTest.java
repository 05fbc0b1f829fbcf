/** What 'Terms' says of boundaries, a test for each such sentence; the sentence stands in each complaint. */
public final class TermsEdgeTest {
    private static final int NONE = Desk.NONE, BAD = Desk.BAD, NO = Desk.NO, FULL = Desk.FULL;
    private static final int LOWEST = Desk.LOWEST;
    private static final int FARTHEST = Desk.FARTHEST;
    private static final String NINES = " 9 9 9 9 9 9 9 9 9 9 9 9;";
    private static final String[] SIDE = {"a", "b"};

    public static void main(String[] args) {
        paragraphsNeverMoreThan8();
        paragraphsAsTheyCome();
        words1To12();
        lengths1To9();
        width9To40();
        lineOfWidthOrLess();
        wordComesToTheLineOfTheOneAhead();
        highLeastShareHaveEdges();
        linesNumberedFrom0();
        linesNeverMoreThan60();
        linesNeverMoreThan60ByWidth();
        tiesNeverMoreThan10();
        weight1To9();
        noTwoTiesOfTheSame();
        crossEitherWayRound();
        crossAsTheyAreNow();
        keptOfNone();
        keptHeaviest();
        keptMostThenLeastBits();
        breaksFrom0ToAll();
        lawfulWithLeastOnBothSides();
        openingTakes0ToHigh();
        veryManyOpenings();
        openingEndsAtLawfulBreaks();
        tiesOnOneOpening();
        onlyKeptTiesBind();
        costOfAnOpening();
        lastOpeningCosts0();
        leastCost();
        fewestOpenings();
        firstOpeningMoreOfSide0();
        firstOpeningMoreOfSide1();
        firstOpeningAheadOfLaterOnes();
        layoutMayBeNone();
        layoutWithoutLines();
        alwaysAsAllIsNow();
        Check.end();
    }

    // ---- SIDES, PARAGRAPHS, WORDS, LENGTHS

    private static void paragraphsNeverMoreThan8() {
        for (int s = 0; s < 2; s++) {
            Desk d = new Desk("PARAGRAPHS never more than 8");
            for (int p = 0; p < 8; p++) {
                d.para(s, 1, 0, p);
            }
            d.para(s, 1, 0, FULL);
            d.does(SIDE[s] + "1;", -1000);
            d.count(s, 8);
            d.para(1 - s, 1, 0, 0);
            d.drops(s, 0, 0);
            d.does(SIDE[s] + "1;" + SIDE[s] + "1;", -1001);
            d.does(SIDE[s] + "1;", 1);
            d.para(s, 12, 99, FULL);
            d.count(s, 8);
            d.refusals(0, 0, 2, 6);
        }
    }

    private static void paragraphsAsTheyCome() {
        for (int s = 0; s < 2; s++) {
            Desk d = new Desk("PARAGRAPHS 0 on, as they come");
            d.para(s, 1, 0, 0);
            d.para(s, 2, 0, 1);
            d.para(1 - s, 5, 0, 0);
            d.para(s, 3, 0, 2);
            d.drops(s, 1, 0);
            d.para(s, 4, 0, 2);
            d.of(s, 0, 0, 1);
            d.of(s, 1, 0, 3);
            d.of(s, 2, 0, 4);
            d.of(s, 3, 0, BAD);
            d.of(1 - s, 0, 0, 5);
        }
    }

    private static void words1To12() {
        for (int s = 0; s < 2; s++) {
            Desk d = new Desk("1 to 12 WORDS");
            d.para(s, 0, 0, BAD);
            d.para(s, 1, 0, 0);
            d.para(s, 12, 0, 1);
            d.para(s, 13, 0, BAD);
            d.of(s, 0, 0, 1);
            d.of(s, 1, 0, 12);
            d.does(SIDE[s] + ";", -11);
            d.does(SIDE[s] + "2;", 1);
            d.does(SIDE[s] + " 1 2 3 4 5 6 7 8 9 8 7 6;", 1);
            d.does(SIDE[s] + " 1 2 3 4 5 6 7 8 9 8 7 6 5;", -36);
            d.count(s, 4);
            d.of(s, 2, 0, 1);
            d.of(s, 3, 0, 12);
        }
    }

    private static void lengths1To9() {
        int[][] byRest = new int[9][];
        byRest[0] = new int[] {1, 9, 5, 7, 6, 2, 4, 3, 8, 1, 9, 5};
        for (int seed = 0; seed < 100; seed++) {
            Desk d = new Desk("LENGTHS 1 .. 9");
            d.para(seed % 2, 12, seed, 0);
            int rest = seed * 7 % 9;
            for (int k = 0; k < 12; k++) {
                // One more in seed * 7 % 9 makes a LENGTH one more, and 1 behind 9.
                int due = byRest[0][k] + rest;
                d.word(seed % 2, 0, k, 0, due > 9 ? due - 9 : due);
            }
        }
        Desk d = new Desk("LENGTHS 1 .. 9, by THE TEXT");
        d.does("a 0;", -1000);
        d.does("b 1 00;", -1000);
        d.does("a 1;", 1);
        d.does("a 9;", 1);
        d.does("a 10;", -1000);
        d.does("b 9 99;", -1000);
        d.word(0, 0, 0, 0, 1);
        d.word(0, 1, 0, 0, 9);
        d.count(0, 2);
        d.count(1, 0);
    }

    // ---- WIDTH, LINES

    private static void width9To40() {
        for (int s = 0; s < 2; s++) {
            Desk d = new Desk("WIDTH 9 .. 40 (20 at first)");
            d.told(3 + s, 20);
            d.widths(s, 8, BAD);
            d.widths(s, 41, BAD);
            d.widths(s, 0, BAD);
            d.widths(s, -9, BAD);
            d.widths(s, LOWEST, BAD);
            d.widths(s, FARTHEST, BAD);
            d.widths(s, 9, 20);
            d.widths(s, 40, 9);
            d.does("w" + s + " 8;", -1000);
            d.does("w" + s + " 41;", -1000);
            d.told(3 + s, 40);
            d.does("w" + s + " 9;", 1);
            d.told(3 + s, 9);
            d.does("w" + s + " 40;", 1);
            d.told(3 + s, 40);
            d.told(4 - s, 20);
        }
    }

    private static void lineOfWidthOrLess() {
        int[] widths = {9, 10, 20, 39, 40};
        String[] fits = {"4 4", "9", "9 4 5", "9 9 9 9", "2 2 2 2 2 2 2 2 2 2 2 7"};
        String[] overflows = {"4 5", "9 1", "9 5 5", "9 9 9 9 1", "2 2 2 2 2 2 2 2 2 2 2 8"};
        for (int i = 0; i < widths.length; i++) {
            for (int s = 0; s < 2; s++) {
                Desk d = Desk.with("that are WIDTH or less; else to a new LINE", "w" + s + " " + widths[i] + ";");
                d.does(SIDE[s] + fits[i] + ";" + SIDE[s] + overflows[i] + ";", 2);
                d.of(s, 0, 1, 1);
                d.of(s, 1, 1, 2);
                d.count(2 + s, 3);
            }
        }
        Desk d = Desk.with("a blank between each two", "w0 9;a 1 1 1 1 1;a 1 1 1 1 1 1;a 9 9;");
        d.of(0, 0, 1, 1);
        d.of(0, 1, 1, 2);
        d.word(0, 1, 4, 1, 0);
        d.word(0, 1, 5, 1, 1);
        d.of(0, 2, 1, 2);
    }

    private static void wordComesToTheLineOfTheOneAhead() {
        Desk d = Desk.with("a WORD comes to the LINE of the one ahead, else to a new LINE", "w1 10;b 8 9 1 8 9;");
        int[] lines = {0, 1, 2, 2, 3};
        for (int k = 0; k < lines.length; k++) {
            d.word(1, 0, k, 1, lines[k]);
        }
        d.of(1, 0, 1, 4);
    }

    // ---- HIGH, LEAST, SHARE

    private static void highLeastShareHaveEdges() {
        int[] first = {8, 2, 1};
        int[] from = {2, 1, 0};
        int[] to = {12, 3, 9};
        String[] order = {"h", "l", "s"};
        String[] sentence = {"HIGH 2 .. 12; 8 at first", "LEAST 1 .. 3; 2 at first", "SHARE 0 .. 9; 1 at first"};
        for (int what = 0; what < 3; what++) {
            Desk d = new Desk(sentence[what]);
            d.told(5 + what, first[what]);
            d.sets(what, from[what] - 1, BAD);
            d.sets(what, to[what] + 1, BAD);
            d.sets(what, LOWEST, BAD);
            d.sets(what, FARTHEST, BAD);
            d.sets(what, from[what], first[what]);
            d.told(5 + what, from[what]);
            d.sets(what, to[what], from[what]);
            d.told(5 + what, to[what]);
            d.does(order[what] + from[what] + ";", 1);
            d.told(5 + what, from[what]);
            d.does(order[what] + to[what] + ";", 1);
            d.does(order[what] + (to[what] + 1) + ";", -1000);
            if (from[what] > 0) {
                d.does(order[what] + (from[what] - 1) + ";", -1000);
            }
            d.told(5 + what, to[what]);
            d.refusals(4, 0, 0, 4);
        }
    }

    private static void linesNumberedFrom0() {
        for (int s = 0; s < 2; s++) {
            String x = SIDE[s];
            Desk d = Desk.with("All LINES, PARAGRAPH by PARAGRAPH, are numbered from 0 on",
                    "w" + s + " 9;" + x + " 9 9;" + x + " 1;" + x + " 9 9 9;");
            d.of(s, 0, 2, 0);
            d.of(s, 1, 2, 2);
            d.of(s, 2, 2, 3);
            d.count(2 + s, 6);
            d.drops(s, 0, 0);
            d.of(s, 0, 2, 0);
            d.of(s, 1, 2, 1);
            d.count(2 + s, 4);
        }
    }

    private static void linesNeverMoreThan60() {
        for (int s = 0; s < 2; s++) {
            String one = SIDE[s] + NINES;
            Desk d = Desk.with("never more than 60 LINES on a SIDE", "w" + s + " 9;" + one + one + one + one,
                    SIDE[s] + " 9 9 9 9 9 9 9 9 9 9 9;");
            d.count(2 + s, 59);
            d.para(s, 2, 5, FULL);
            d.does(SIDE[s] + " 9 9;", -1000);
            d.para(s, 1, 5, 5);
            d.count(2 + s, 60);
            d.para(s, 1, 0, FULL);
            d.does(SIDE[s] + " 1;", -1000);
            d.para(1 - s, 12, 0, 0);
            d.back(3);
            d.back(2);
            d.does(SIDE[s] + " 1;", 1);
            d.count(2 + s, 60);
            d.does(SIDE[s] + " 1;", -1000);
            d.refusals(0, 0, 2, 3);
        }
    }

    private static void linesNeverMoreThan60ByWidth() {
        for (int s = 0; s < 2; s++) {
            String one = SIDE[s] + NINES;
            Desk d = Desk.with("never more than 60 LINES, by a new WIDTH", one + one + one + one,
                    one + SIDE[s] + " 9;");
            d.count(2 + s, 31);
            d.widths(s, 19, 20);
            d.widths(s, 18, FULL);
            d.does("w" + s + " 18;", -1000);
            d.widths(s, 9, FULL);
            d.told(3 + s, 19);
            d.count(2 + s, 31);
            d.drops(s, 5, 0);
            d.widths(s, 18, 19);
            d.count(2 + s, 60);
            d.widths(1 - s, 9, 20);
            d.does("w" + s + " 9;", 1);
            d.count(2 + s, 60);
            d.refusals(0, 0, 2, 6);
        }
    }

    // ---- TIES

    private static void tiesNeverMoreThan10() {
        Desk d = Desk.with("TIES never more than 10", "a1;a1;a1;b1;b1;b1;b1;");
        for (int i = 0; i < 10; i++) {
            d.ties(i / 4, i % 4, 9, i);
        }
        d.ties(2, 2, 1, FULL);
        d.does("t 2 2 1;", -1000);
        d.count(4, 10);
        d.unties(3, 9);
        d.does("t 2 2 1;t 2 3 1;", -1001);
        d.count(4, 9);
        d.ties(0, 3, 2, 9);
        d.ties(2, 3, 1, FULL);
        d.refusals(0, 0, 2, 6);
    }

    private static void weight1To9() {
        Desk d = Desk.with("a WEIGHT (1 .. 9)", "a1;b1;b1;b1;b1;");
        d.ties(0, 0, 0, BAD);
        d.ties(0, 0, 10, BAD);
        d.ties(0, 0, -1, BAD);
        d.ties(0, 0, LOWEST, BAD);
        d.ties(0, 0, FARTHEST, BAD);
        d.does("t 0 0 0;", -1000);
        d.does("t 0 0 10;", -1000);
        d.ties(0, 0, 1, 0);
        d.ties(0, 1, 9, 1);
        d.does("t 0 2 1;t 0 3 9;", 2);
        int[] weights = {1, 9, 1, 9};
        for (int i = 0; i < 4; i++) {
            d.tie(i, 2, weights[i]);
        }
    }

    private static void noTwoTiesOfTheSame() {
        Desk d = Desk.with("no two of the same p and q", "a1;a1;b1;b1;");
        d.ties(0, 1, 3, 0);
        d.ties(0, 1, 3, NO);
        d.ties(0, 1, 4, NO);
        d.does("t 0 1 4;", -1000);
        d.ties(1, 0, 3, 1);
        d.ties(0, 0, 3, 2);
        d.ties(1, 1, 3, 3);
        d.does("t 1 1 3;", -1000);
        d.unties(0, 3);
        d.ties(0, 1, 5, 3);
        d.drops(0, 0, 2);
        d.ties(0, 0, 1, NO);
        d.refusals(0, 3, 0, 6);
    }

    private static void crossEitherWayRound() {
        String sentence = "Two TIES CROSS: one p below, its q above, or the other way round";
        String book = "a1;a1;a1;b1;b1;b1;";
        int[] cross = {1, 1, 0, 0, 0, 0, 0, 0};
        String[] two = {"t 0 2 1;t 1 1 1;", "t 1 1 1;t 0 2 1;", "t 0 0 1;t 0 2 1;", "t 0 2 1;t 0 0 1;",
            "t 0 1 1;t 2 1 1;", "t 2 1 1;t 0 1 1;", "t 0 0 1;t 1 1 1;", "t 2 2 1;t 1 1 1;"};
        for (int i = 0; i < two.length; i++) {
            Desk d = Desk.with(sentence + ", " + two[i], book, two[i]);
            d.count(5, cross[i]);
            d.tie(0, 4, cross[i]);
            d.tie(1, 4, cross[i]);
            d.crossing(0, 0, cross[i] == 1 ? 0 : NONE);
            d.crossing(0, 1, cross[i] == 1 ? 1 : NONE);
            d.count(6, cross[i] == 1 ? 1 : 3);
        }
    }

    private static void crossAsTheyAreNow() {
        Desk d = Desk.with("Two TIES CROSS, as all is now", "a1;a1;a1;b1;b1;b1;t 0 2 5;t 1 1 1;t 2 0 1;");
        d.count(5, 3);
        d.unties(1, 2);
        d.count(5, 1);
        d.tie(0, 4, 1);
        d.tie(1, 4, 1);
        d.drops(1, 2, 1);
        d.count(5, 0);
        d.tie(0, 4, 0);
        d.ties(2, 1, 1, 1);
        d.count(5, 0);
        d.tie(0, 4, 0);
        d.tie(1, 4, 0);
        d.kept(3, 2);
        d.back(3);
        d.back(2);
        d.count(5, 1);
        d.kept(1, 5);
    }

    private static void keptOfNone() {
        Desk d = new Desk("KEPT TIES without any TIES");
        d.kept(0, 0);
        d.count(5, 0);
        d.does("a1;b1;t 0 0 9;", 3);
        d.kept(1, 9);
        d.unties(0, 0);
        d.kept(0, 0);
    }

    private static void keptHeaviest() {
        String sentence = "KEPT TIES: the greatest WEIGHT together";
        Desk d = Desk.with(sentence, "a1;a1;a1;b1;b1;b1;", "t 1 0 2;t 2 1 2;t 0 2 5;");
        d.kept(4, 5);
        d.does("t 1 1 1;", 1);
        // 2 + 1 + 2 = 5, too, and three of them.
        d.kept(11, 5);
        d.unties(3, 3);
        d.drops(1, 0, 1);
        d.kept(2, 5);
        d = Desk.with(sentence + ", ten that do not CROSS", "a1;a1;a1;a1;a1;a1;b1;b1;b1;b1;b1;",
                "t 5 4 9;t 4 4 9;t 4 3 9;t 3 3 9;t 3 2 9;", "t 2 2 9;t 2 1 9;t 1 1 9;t 1 0 9;t 0 0 9;");
        d.kept(1023, 90);
        d = Desk.with(sentence + ", ten of which all CROSS but those of one p", "a1;a1;a1;a1;a1;b1;b1;b1;b1;b1;",
                "t 0 4 1;t 1 3 1;t 2 2 1;t 3 1 1;t 4 0 1;t 0 3 1;t 1 2 1;t 2 1 1;t 3 0 1;t 4 4 1;");
        // TIE 9 crosses none; of the rest each two CROSS but those with an end in common.
        d.kept(512 + 32 + 1, 3);
    }

    private static void keptMostThenLeastBits() {
        Desk d = Desk.with("of such that with the most", "a1;a1;a1;b1;b1;b1;", "t 0 2 4;t 1 0 1;t 2 1 3;");
        d.kept(6, 4);
        d = Desk.with("of such that with the most", "a1;a1;a1;b1;b1;b1;", "t 1 0 1;t 2 1 3;t 0 2 4;");
        d.kept(3, 4);
        d = Desk.with("of such the least as bits", "a1;a1;b1;b1;", "t 1 0 3;t 0 1 3;");
        d.kept(1, 3);
        // TIES 0 and 3 (bits 9) or TIES 1 and 2 (bits 6).
        d = Desk.with("of such the least as bits", "a1;a1;a1;a1;b1;b1;b1;b1;", "t 0 2 1;t 2 0 1;t 3 1 1;t 1 3 1;");
        d.kept(6, 2);
        for (int i = 0; i < 4; i++) {
            d.tie(i, 3, i == 1 || i == 2 ? 1 : 0);
        }
    }

    // ---- BREAKS

    private static void breaksFrom0ToAll() {
        for (int s = 0; s < 2; s++) {
            Desk d = new Desk("A BREAK is a number of LINES b from 0 to all of them");
            d.allLawful(s, "1");
            d.lawful(s, -1, BAD);
            d.does("w" + s + " 9;" + SIDE[s] + " 9;", 2);
            d.allLawful(s, "11");
            d.lawful(s, -1, BAD);
            d.lawful(s, LOWEST, BAD);
            d.lawful(s, FARTHEST, BAD);
            d.allLawful(1 - s, "1");
            d.does(SIDE[s] + NINES + SIDE[s] + NINES + SIDE[s] + NINES + SIDE[s] + NINES, 4);
            d.does(SIDE[s] + " 9 9 9 9 9 9 9 9 9 9 9;", 1);
            d.lawful(s, 60, 1);
            d.lawful(s, 61, BAD);
        }
    }

    private static void lawfulWithLeastOnBothSides() {
        String[] halves = {"9 9", "9 9 9 9", "9 9 9 9 9 9"};
        String[] oneLess = {"9", "9 9 9", "9 9 9 9 9"};
        String[] oneMore = {"9 9 9", "9 9 9 9 9", "9 9 9 9 9 9 9"};
        String[] dueHalves = {"111", "10101", "1001001"};
        String[] dueOneLess = {"11", "1001", "100001"};
        String[] dueOneMore = {"1111", "101101", "10011001"};
        for (int least = 1; least <= 3; least++) {
            int i = least - 1;
            for (int s = 0; s < 2; s++) {
                String begin = "l" + least + ";w" + s + " 9;" + SIDE[s];
                String sentence = "LAWFUL: LEAST or more ahead and LEAST or more behind";
                Desk.with(sentence, begin + halves[i] + ";").allLawful(s, dueHalves[i]);
                Desk.with(sentence, begin + oneLess[i] + ";").allLawful(s, dueOneLess[i]);
                Desk.with(sentence, begin + oneMore[i] + ";").allLawful(s, dueOneMore[i]);
                Desk two = Desk.with("LAWFUL: of its own LINES", begin + oneLess[i] + ";" + SIDE[s] + oneLess[i] + ";");
                two.allLawful(s, dueOneLess[i] + dueOneLess[i].substring(1));
            }
        }
    }

    // ---- OPENINGS

    private static void openingTakes0ToHigh() {
        String sentence = "each takes some LINES (0 .. HIGH), one at least together";
        Desk d = Desk.with(sentence, "w0 9;h12;s0;a" + NINES);
        d.openings(0, Desk.takes(12, 0));
        d.does("a 9;", 1);
        d.openings(144, Desk.takes(12, 0), Desk.takes(1, 0));
        d = Desk.with(sentence, "w1 9;h12;s0;b" + NINES);
        d.openings(0, Desk.takes(0, 12));
        d.does("b 9;", 1);
        d.openings(144, Desk.takes(0, 12), Desk.takes(0, 1));
        d = Desk.with(sentence, "w0 9;w1 9;h2;l1;s0;a 9 9 9;b 9 9;");
        d.openings(0, Desk.takes(2, 2), Desk.takes(1, 0));
        d.sets(0, 3, 2);
        d.openings(0, Desk.takes(3, 2));
        d = Desk.with(sentence, "w0 9;w1 9;h2;l1;s0;a 9 9;b 9 9 9;");
        d.openings(0, Desk.takes(2, 2), Desk.takes(0, 1));
        // All LINES that an object can hold.
        d = Desk.with(sentence, "w0 9;w1 9;h12;l1;a" + NINES + "a" + NINES + "a" + NINES, "a" + NINES + "a" + NINES,
                "b" + NINES + "b" + NINES + "b" + NINES + "b" + NINES, "b 9 9 9 9 9 9 9 9 9 9 9;b 9;");
        d.openings(0, Desk.takes(12, 12), Desk.takes(12, 12), Desk.takes(12, 12), Desk.takes(12, 12), Desk.takes(12, 12));
    }

    /** SIDE 0 has to end where SIDE 1 begins, and a LINE alone costs 14, two together 40. */
    private static void veryManyOpenings() {
        Desk d = Desk.with("OPENINGS 0 on, far more than one SIDE has LINES", "w0 9;w1 9;h2;l1;s9;a" + NINES + "a" + NINES + "a" + NINES,
                "a" + NINES + "a 9 9 9 9 9 9 9 9 9 9 9;a 9;", "b" + NINES + "b" + NINES + "b" + NINES + "b" + NINES);
        d.does("b" + NINES + "t 5 0 1;", 2);
        // 58 alone, then two of both, 56 alone, and two.
        d.count(8, 116);
        d.count(9, (58 + 56) * 14);
        int[][] due = {{0, 1, 0, 0, 14}, {57, 1, 0, 0, 14}, {58, 2, 0, 2, 0}, {60, 0, 2, 1, 14}, {60, 0, 58, 2, 0}};
        int[] at = {0, 57, 58, 59, 115};
        for (int i = 0; i < at.length; i++) {
            for (int what = 0; what < 5; what++) {
                d.opening(at[i], what, due[i][what]);
            }
        }
        d.opening(116, 0, NONE);
        d.of(0, 5, 3, 58);
        d.of(1, 0, 3, 58);
        d.of(1, 4, 4, 115);
    }

    private static void openingEndsAtLawfulBreaks() {
        Desk d = Desk.with("each ends at LAWFUL BREAKS on both SIDES", "w0 9;w1 9;h4;l2;a 9 9 9 9 9;b 9 9 9 9 9;");
        d.openings(2, Desk.takes(3, 3), Desk.takes(2, 2));
        d.sets(1, 1, 2);
        d.openings(0, Desk.takes(4, 4), Desk.takes(1, 1));
        d.sets(1, 3, 1);
        d.noLayout();
        d.sets(0, 5, 4);
        d.openings(0, Desk.takes(5, 5));
    }

    private static void tiesOnOneOpening() {
        String sentence = "the first LINES of its p and of its q are on one OPENING";
        Desk d = Desk.with(sentence, "w0 9;w1 9;h2;l1;a 9;a 9;a 9;b 9;b 9;b 9;");
        d.openings(0, Desk.takes(2, 2), Desk.takes(1, 1));
        d.ties(1, 2, 1, 0);
        // (1,1) (2,2) costs as much, but takes less of SIDE 1 first.
        d.openings(2, Desk.takes(1, 2), Desk.takes(2, 1));
        d.of(0, 1, 3, 1);
        d.of(1, 2, 3, 1);
        // The first LINE counts, not the last: PARAGRAPH 0 of SIDE 0 may end on another OPENING.
        d = Desk.with(sentence, "w0 9;w1 9;h2;l1;a 9 9 9;b 9;t 0 0 1;");
        d.openings(2, Desk.takes(2, 1), Desk.takes(1, 0));
        d.of(0, 0, 3, 0);
        d.of(0, 0, 4, 1);
        d.of(1, 0, 3, 0);
        d.of(1, 0, 4, 0);
        // The last LINES of both are on OPENING 1 here, but the first are not.
        d = Desk.with(sentence, "w0 9;w1 9;h2;l2;s0;a 9 9;b 9;b 9;b 9;t 0 2 1;");
        d.openings(4, Desk.takes(0, 2), Desk.takes(2, 1));
    }

    private static void onlyKeptTiesBind() {
        Desk d = Desk.with("for each KEPT TIE", "w0 9;w1 9;h2;l1;a 9;a 9;a 9;b 9;b 9;b 9;t 0 0 9;t 2 2 9;t 1 1 9;");
        d.openings(0, Desk.takes(2, 2), Desk.takes(1, 1));
        d.ties(2, 0, 1, 3);
        d.kept(7, 27);
        d.openings(0, Desk.takes(2, 2), Desk.takes(1, 1));
        d.of(0, 2, 3, 1);
        d.of(1, 0, 3, 0);
        d.unties(0, 3);
        d.unties(0, 2);
        d.unties(0, 1);
        d.kept(1, 1);
        d.openings(6, Desk.takes(1, 0), Desk.takes(2, 2), Desk.takes(0, 1));
        d.of(0, 2, 3, 1);
        d.of(1, 0, 3, 1);
    }

    private static void costOfAnOpening() {
        String sentence = "COST: both squares of WHITE and SHARE times the square of their difference";
        int[] shares = {0, 1, 9};
        int[] costs = {25, 50, 250};
        for (int i = 0; i < shares.length; i++) {
            Desk d = Desk.with(sentence, "w0 9;w1 9;h5;l3;s" + shares[i] + ";b 9 9 9 9 9;b 9 9 9 9 9;");
            d.openings(costs[i], Desk.takes(0, 5), Desk.takes(0, 5));
            d.opening(0, 4, costs[i]);
            d.opening(1, 4, 0);
            d = Desk.with(sentence, "w0 9;w1 9;h5;l3;s" + shares[i] + ";a 9 9 9 9 9;a 9 9 9 9 9;");
            d.openings(costs[i], Desk.takes(5, 0), Desk.takes(5, 0));
            d.opening(0, 4, costs[i]);
            d.opening(1, 4, 0);
            d = Desk.with(sentence, "w0 9;w1 9;h5;l3;s" + shares[i] + ";a 9 9 9;a 9 9 9;b 9;b 9 9 9 9 9;t 0 0 1;");
            // WHITE 2 and 4, their difference 2.
            d.openings(4 + 16 + 4 * shares[i], Desk.takes(3, 1), Desk.takes(3, 5));
            d.opening(0, 4, 4 + 16 + 4 * shares[i]);
        }
    }

    private static void lastOpeningCosts0() {
        Desk d = Desk.with("COST of the last OPENING 0", "w0 9;h12;s9;a 9;");
        d.openings(0, Desk.takes(1, 0));
        d.opening(0, 4, 0);
        d.does("b 9;", 1);
        d.openings(0, Desk.takes(1, 1));
        d.opening(0, 4, 0);
        d.sets(0, 2, 12);
        d.does("w1 9;a 9 9;b 9 9;", 3);
        d.count(8, 2);
        d.opening(1, 4, 0);
        d.opening(2, 4, NONE);
    }

    private static void leastCost() {
        Desk d = Desk.with("of all that of the least COST together", "w0 9;w1 9;h2;l1;s9;a 9 9 9;");
        // 1 LINE first: 1 + 4 + 9; 2 first: 0 + 4 + 36.
        d.openings(14, Desk.takes(1, 0), Desk.takes(2, 0));
        d.sets(2, 0, 9);
        d.openings(4, Desk.takes(2, 0), Desk.takes(1, 0));
        d = Desk.with("the least COST, though in more OPENINGS", "w0 9;w1 9;h2;l1;s9;a 9 9 9 9;");
        // 1, 1, 2: 28; 2, 2: 40.
        d.openings(28, Desk.takes(1, 0), Desk.takes(1, 0), Desk.takes(2, 0));
    }

    private static void fewestOpenings() {
        // By SHARE 3 one LINE alone costs 8, two 16: 1, 1, 1, 2 as much as 2, 1, 2.
        Desk d = Desk.with("of such that of the fewest OPENINGS", "w0 9;h2;l1;s3;a 9 9 9 9 9;");
        d.openings(24, Desk.takes(2, 0), Desk.takes(1, 0), Desk.takes(2, 0));
        d = Desk.with("of such that of the fewest OPENINGS", "w1 9;h2;l1;s3;b 9 9 9 9 9;");
        d.openings(24, Desk.takes(0, 2), Desk.takes(0, 1), Desk.takes(0, 2));
    }

    private static void firstOpeningMoreOfSide0() {
        // (1,2) (2,2) (0,1) costs as much.
        Desk d = Desk.with("the one that takes more LINES of SIDE 0 there", "w0 9;w1 9;h2;l1;s0;a 9 9 9;b 9 9 9 9 9;");
        d.openings(1, Desk.takes(2, 2), Desk.takes(1, 2), Desk.takes(0, 1));
    }

    private static void firstOpeningMoreOfSide1() {
        // (2,1) (2,2) (1,0) costs as much.
        Desk d = Desk.with("if these are alike, more of SIDE 1 there", "w0 9;w1 9;h2;l1;s0;a 9 9 9 9 9;b 9 9 9;");
        d.openings(1, Desk.takes(2, 2), Desk.takes(2, 1), Desk.takes(1, 0));
    }

    private static void firstOpeningAheadOfLaterOnes() {
        // (3,0) (4,3) (3,0) costs 26 + 2 and takes more of SIDE 0, but in the second OPENING alone.
        Desk d = Desk.with("in the first OPENING in which two do not take the same",
                "w0 9;w1 9;h4;l3;a 9 9 9;a 9 9 9;a 9;a 9 9 9;b 9 9 9;");
        d.openings(28, Desk.takes(3, 3), Desk.takes(3, 0), Desk.takes(4, 0));
    }

    private static void layoutMayBeNone() {
        for (int s = 0; s < 2; s++) {
            Desk d = Desk.with("There may be none: no LAWFUL BREAK soon enough",
                    "w" + s + " 9;h4;l3;" + SIDE[s] + " 9 9 9 9 9;" + SIDE[1 - s] + " 9;");
            d.noLayout();
            d.of(s, 0, 3, NONE);
            d.of(s, 0, 4, NONE);
            d.of(1 - s, 0, 3, NONE);
            d.of(1 - s, 0, 4, NONE);
            d.of(s, 0, 1, 5);
            d.does(SIDE[s] + "1;", 1);
            d.noLayout();
            d.of(s, 1, 3, NONE);
            d.sets(0, 5, 4);
            d.count(8, 2);
        }
        Desk d = Desk.with("There may be none: KEPT TIES too far apart", "w0 9;w1 9;h2;l1;a 9;b 9 9;b 9;", "t 0 0 1;");
        d.count(8, 2);
        d.ties(0, 1, 1, 1);
        d.kept(3, 2);
        d.noLayout();
        d.sets(0, 3, 2);
        d.openings(0, Desk.takes(1, 3));
        d.back(3);
        d.unties(0, 1);
        // (0,2) (1,1) would cost 4 + 0 + 4.
        d.openings(6, Desk.takes(0, 1), Desk.takes(1, 2));
    }

    private static void layoutWithoutLines() {
        Desk d = new Desk("without any LINES there is that of no OPENINGS");
        d.openings(0);
        d.does("h2;l3;s9;w0 9;", 4);
        d.openings(0);
        d.para(0, 12, 9, 0);
        d.noLayout();
        d.drops(0, 0, 0);
        d.openings(0);
        d.opening(FARTHEST, 4, NONE);
    }

    private static void alwaysAsAllIsNow() {
        Desk d = new Desk("LINES, KEPT TIES, THE LAYOUT are always as all is now");
        d.does("w0 9;w1 9;h2;l1;s0;a 9 9 9;b 9 9;", 7);
        d.openings(0, Desk.takes(2, 2), Desk.takes(1, 0));
        d.widths(0, 19, 9);
        d.of(0, 0, 1, 2);
        d.openings(0, Desk.takes(2, 2));
        d.para(1, 1, 5, 1);
        d.openings(0, Desk.takes(2, 2), Desk.takes(0, 1));
        d.ties(0, 1, 1, 0);
        d.kept(1, 1);
        d.openings(4, Desk.takes(0, 2), Desk.takes(2, 1));
        d.unties(0, 0);
        d.kept(0, 0);
        d.openings(0, Desk.takes(2, 2), Desk.takes(0, 1));
        d.back(4);
        d.kept(1, 1);
        d.openings(4, Desk.takes(0, 2), Desk.takes(2, 1));
        d.does("h3;", 1);
        d.openings(0, Desk.takes(2, 3));
        d.drops(1, 0, 0);
        d.tie(0, 1, 0);
        d.openings(0, Desk.takes(2, 1));
        d.sets(0, 2, 3);
        d.sets(1, 2, 1);
        d.sets(2, 9, 0);
        d.does("w0 9;a 9 9;", 2);
        d.noLayout();
        d.lawful(0, 1, 0);
        d.sets(1, 1, 2);
        d.lawful(0, 1, 1);
        d.openings(10 + 14, Desk.takes(2, 1), Desk.takes(1, 0), Desk.takes(2, 0));
    }
}
