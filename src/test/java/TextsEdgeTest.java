import java.math.BigInteger;
import java.util.ArrayList;
import java.util.List;

/** What promises 15 to 20 say of boundaries, and 'Terms' of THE TEXT, ORDERS and FAULT: a test for each sentence. */
public final class TextsEdgeTest {
    private static final int NONE = Desk.NONE, BAD = Desk.BAD, NO = Desk.NO, FULL = Desk.FULL;
    private static final int LOWEST = Desk.LOWEST;
    private static final int FARTHEST = Desk.FARTHEST;
    private static final String LETTERS = "abtwhls";
    private static final String FIGURES = "0123456789";

    public static void main(String[] args) {
        typeByte();
        type120();
        clear();
        everyByteInEveryPlace();
        ordersEachEnded();
        ordersOfAllKinds();
        numbersOf1Or2Figures();
        blanksAnywhere();
        blanksNeeded();
        onlyBlanksAreBlank();
        readWholeFirst();
        refusedThen();
        nothingIsDone();
        orderThatEndsAllByNumber();
        faultsAtTheEdges();
        endsTooEarly();
        textStays();
        oneStateForAll();
        byTheTextNothingCounts();
        back();
        told();
        digestWrapsAround();
        digestWithoutLayout();
        Check.end();
    }

    private static void typeByte() {
        Desk d = new Desk("15: A byte (0 .. 127)");
        d.type(-1, BAD);
        d.type(128, BAD);
        d.type(LOWEST, BAD);
        d.type(FARTHEST, BAD);
        d.type(256 + 'h', BAD);
        d.told(8, 0);
        d.type(0, 1);
        d.type(127, 2);
        d.refusals(5, 0, 0, 0);
    }

    private static void type120() {
        Desk d = new Desk("15: FULL: 120");
        for (int i = 1; i <= 120; i++) {
            d.type(';', i);
        }
        d.type(';', FULL);
        d.type(128, BAD);
        d.type(-1, BAD);
        d.told(8, 120);
        d.refusals(2, 0, 1, 0);
        d.clear(120);
        d.told(8, 0);
        d.type('h', 1);
        d.type('3', 2);
        d.type(';', 3);
        d.does(1);
        d.told(5, 3);
    }

    private static void clear() {
        Desk d = new Desk("16: THE TEXT is empty: how many it had");
        d.clear(0);
        d.type('h', 1);
        d.clear(1);
        d.clear(0);
        d.does(-10);
        d.retype(repeat("h2;", 40));
        d.clear(120);
        d.does(-10);
        d.refusals(0, 0, 0, 0);
    }

    private static String repeat(String text, int times) {
        return text.repeat(times);
    }

    /** Behind each beginning just these bytes can stand; with any other, that is the FAULT. */
    private static void everyByteInEveryPlace() {
        String number = FIGURES + " ";
        String more = FIGURES + " ;";
        String order = LETTERS + " ";
        String[][] places = {
            {"", order}, {"  ", order}, {"h2;", order}, {"h2; ", order}, {"h 2 ; l1;", order},
            {"h", number}, {"h ", number}, {"l", number}, {"s", number}, {"w", number}, {"t ", number}, {"a", number},
            {"b  ", number}, {"h3", more}, {"h3 ", " ;"}, {"h03", " ;"}, {"h03 ", " ;"}, {"l1", more}, {"l01", " ;"},
            {"s1", more}, {"s1 ", " ;"}, {"w0", number}, {"w0 ", number}, {"w00", " "}, {"w00 ", number}, {"w0 2", more},
            {"w0 20", " ;"}, {"w0 9 ", " ;"}, {"t0", number}, {"t00", " "}, {"t0 0", number}, {"t0 0 ", number},
            {"t0 00", " "}, {"t0 0 1", more}, {"t0 0 1 ", " ;"}, {"t0 0 01", " ;"}, {"a1", more}, {"a1 ", more},
            {"a01", " ;"}, {"a01 ", more}, {"b1 2", more}, {"b 1 2 3 4 5 6 7 8 9 1 2", more},
            {"b 1 2 3 4 5 6 7 8 9 1 2 ", more}, {"a 1 2 3 4 5 6 7 8 9 1 2 3", more},
            {"a 1 2 3 4 5 6 7 8 9 1 2 3 ", " ;"}, {"a 1 2 3 4 5 6 7 8 9 1 2 03", " ;"}};
        for (String[] place : places) {
            for (int c = 0; c < 128; c++) {
                boolean stands = place[1].indexOf(c) >= 0;
                int got = doesOf(place[0] + (char) c);
                boolean fault = got == -10 - place[0].length();
                Check.isTrue("FAULT: behind '" + place[0] + "' " + c + (stands ? " can stand" : " can not stand"), fault != stands);
            }
        }
    }

    private static int doesOf(String text) {
        FacingPages x = new FacingPages();
        for (char c : text.toCharArray()) {
            x.type(c);
        }
        return x.does();
    }

    private static void ordersEachEnded() {
        Desk d = new Desk("ORDERS, each ended by ;");
        d.does("h3", -12);
        d.told(5, 8);
        d.does("h3;", 1);
        d.told(5, 3);
        d.does("h4;l1", -15);
        d.told(5, 3);
        d.does("h4;l1;", 2);
        d.told(5, 4);
        d.does(";", -10);
        d.does("h5;;", -13);
        d.does(";h5;", -10);
        d.does("h5; ;", -14);
        d.does("h5l1;", -12);
        d.told(5, 4);
    }

    private static void ordersOfAllKinds() {
        Desk d = new Desk("a n .., b n .., t p q w, w s v, h v, l v, s v");
        d.does("a 1 2;b 3;t 0 0 8;w 0 21;w 1 22;h 3;l 1;s 5;", 8);
        d.count(0, 1);
        d.count(1, 1);
        d.word(0, 0, 1, 0, 2);
        d.word(1, 0, 0, 0, 3);
        d.tie(0, 2, 8);
        int[] told = {21, 22, 3, 1, 5};
        for (int i = 0; i < 5; i++) {
            d.told(3 + i, told[i]);
        }
        d.does("t 0;", -13);
        d.does("t 0 0;", -15);
        d.does("t 0 0 1 1;", -18);
        d.does("w 0;", -13);
        d.does("w 0 20 1;", -17);
        d.does("h;", -11);
        d.does("h 2 2;", -14);
        d.does("l;", -11);
        d.does("s 1 1;", -14);
        d.does("A 1;", -10);
        d.does("c 1;", -10);
    }

    private static void numbersOf1Or2Figures() {
        Desk d = new Desk("Numbers have 1 or 2 figures; FAULT: a third figure");
        d.does("h2;", 1);
        d.does("h03;", 1);
        d.told(5, 3);
        d.does("h12;", 1);
        d.told(5, 12);
        d.does("h012;", -13);
        d.does("h 003;", -14);
        d.does("a 111;", -14);
        d.does("a 1 111;", -16);
        d.does("a1;b1;", 2);
        d.does("t 00 00 01;", 1);
        d.does("w 00 010;", -17);
        d.does("w 01 09;", 1);
        d.told(4, 9);
        d.does("s00;", 1);
        d.told(7, 0);
        d.does("a 09 01;", 1);
        d.word(0, 1, 0, 0, 9);
        d.word(0, 1, 1, 0, 1);
        // Of a 12th LENGTH, too.
        d.does("a 1 1 1 1 1 1 1 1 1 1 1 111;", -36);
    }

    private static void blanksAnywhere() {
        Desk d = new Desk("blanks may stand anywhere but within a number");
        d.does(" h3;", 1);
        d.does("h 4;", 1);
        d.does("h5 ;", 1);
        d.does("h6; ", 1);
        d.told(5, 6);
        d.does("   h   12   ;   l   3   ;   ", 2);
        d.told(5, 12);
        d.told(6, 3);
        d.does("  a  1   2  ;", 1);
        d.of(0, 0, 0, 2);
        d.does("h 1 2;", -14);
        d.does("l 0 2;", -14);
        d.does("w 0 1 2;", -16);
        d.told(5, 12);
    }

    private static void blanksNeeded() {
        Desk d = new Desk("needed only where figures of two numbers would else stand side by side");
        d.does("a1 2 3;b4;t0 0 5;w1 21;h7;l3;s2;", 7);
        d.of(0, 0, 0, 3);
        d.does("a12 3;", -1000);
        d.does("a12;", -1000);
        d.does("a123;", -13);
        d.does("w121;", -13);
        d.does("w12 1;", -1000);
        d.does("t00 5;", -15);
        d.does("t005;", -13);
        d.count(0, 1);
        d.count(4, 1);
    }

    private static void onlyBlanksAreBlank() {
        Desk d = new Desk("blanks (32)");
        int[] others = {0, 9, 10, 11, 12, 13, 31, 33, 95, 127};
        for (int c : others) {
            d.does("h" + (char) c + "4;", -11);
            d.does((char) c + "h4;", -10);
            d.does("h4;" + (char) c, -13);
        }
        d.told(5, 8);
    }

    private static void readWholeFirst() {
        Desk d = new Desk("THE TEXT is read whole first");
        d.does("a 0;x", -14);
        d.does("h1;h", -14);
        d.does("t 9 9 9; h 4", -22);
        d.does("h 99;;", -15);
        d.does("h3;h 123;", -17);
        d.told(5, 8);
        d.refusals(0, 0, 0, 0);
    }

    private static void refusedThen() {
        Desk d = new Desk("an ORDER that its call would refuse then");
        d.does("t 0 0 1;a1;b1;", -1000);
        d.does("a1;t 0 0 1;b1;", -1001);
        d.does("a1;b1;t 0 0 1;", 3);
        d.does("a1;t 1 0 1;t 1 0 2;", -1002);
        d.does("t 0 0 9;", -1000);
        d.does("a1;t 1 0 1;", 2);
        d.count(4, 2);
        d.does(repeat("b1;", 8), -1007);
        d.does(repeat("b1;", 7), 7);
        d.does("b1;", -1000);
        String nines = " 9 9 9 9 9 9 9 9 9 9 9 9;";
        d = new Desk("would refuse then, by LINES");
        d.does("a" + nines + "a" + nines + "a" + nines + "a" + nines, 4);
        d.does("a" + nines + "a 9;w 0 18;", -1002);
        d.does("a" + nines + "w 0 18;a 9;", -1002);
        d.does("a" + nines + "w 0 18;w 0 19;a 9;", 4);
        d.count(2, 31);
    }

    private static void nothingIsDone() {
        Desk d = Desk.with("ends all, nothing is done", "a1;b1;t 0 0 1;");
        long before = d.digest();
        String all = "a2;b2;t 1 1 9;w0 9;w1 9;h2;l1;s9;";
        d.does(all + "h 1;", -1008);
        d.does(all + "h x;", -10 - all.length() - 2);
        d.does(all + "h", -10 - all.length() - 1);
        d.clear(all.length() + 1);
        d.same("digest() as before", d.digest(), before);
        d.back(0);
        d.count(0, 0);
    }

    private static void orderThatEndsAllByNumber() {
        Desk d = new Desk("17: -1000 less the number (0 on) of the ORDER that ends all");
        d.does("h1;", -1000);
        d.does("h2;h1;h1;", -1001);
        d.does(repeat("h2;", 39) + "h1;", -1039);
        d.told(5, 8);
        d.does(repeat("h2;", 40), 40);
        d.told(5, 2);
        d.told(9, 1);
    }

    private static void faultsAtTheEdges() {
        Desk d = new Desk("17: -10 less the FAULT, the place of the first byte that can not stand there");
        d.does("x", -10);
        d.does(repeat("h2;", 39) + "h2x", -129);
        d = new Desk("FAULT: the first one of several");
        d.does("h2;xx;x", -13);
        d.does("h 123 x", -14);
        d.does("a 1 1 1 1 1 1 1 1 1 1 1 1 1 1;", -36);
        d.does("a 1 1 1 1 1 1 1 1 1 1 1 1 99;", -36);
        d.does("b1 1 1 1 1 1 1 1 1 1 1 1   123;", -37);
        d.does("a 10 10 10 10 10 10 10 10 10 10 10 10 1;", -48);
    }

    private static void endsTooEarly() {
        Desk d = new Desk("FAULT: the TEXT's length, if it ends too early (an empty one, too)");
        d.does("", -10);
        d.does("h", -11);
        d.does("h ", -12);
        d.does("h2", -12);
        d.does("t0 0", -14);
        d.does("h2; a", -15);
        d.does("h2; a 1 2 ", -20);
        d.does(" ", -11);
        d.does("h2; ", 1);
        d = new Desk("FAULT: the TEXT's length, of 120 bytes");
        d.does(repeat("h2;", 39) + "h12", -130);
        d.does(repeat(" ", 120), -130);
        d.told(9, 0);
    }

    private static void textStays() {
        Desk d = new Desk("17: (THE TEXT stays)");
        d.does("a1;", 1);
        d.told(8, 3);
        for (int p = 2; p <= 8; p++) {
            d.does(1);
            d.count(0, p);
        }
        d.does(-1000);
        d.back(5);
        d.told(8, 3);
        d.does(1);
        d.type('h', 4);
        d.does(-14);
        d.told(8, 4);
        d.clear(4);
    }

    private static void oneStateForAll() {
        Desk d = new Desk("17: S (one STATE for all)");
        d.does("a1;a2;b3;t 0 0 1;t 1 0 2;w0 9;h2;", 7);
        d.told(9, 1);
        d.does("h3;h4;h5;h6;h7;h8;h9;", 7);
        d.told(9, 2);
        d.back(1);
        d.told(5, 2);
        d.count(4, 2);
        d.back(0);
        d.count(0, 0);
        d.told(5, 8);
        d.back(NO);
    }

    private static void byTheTextNothingCounts() {
        Desk d = Desk.with("By THE TEXT nothing counts", "a1;b1;t 0 0 1;");
        d.does("a 0;", -1000);
        d.does("t 0 0 1;", -1000);
        d.does("t 5 0 1;", -1000);
        d.does(repeat("a1;", 8), -1007);
        d.does("w0 41;", -1000);
        d.does("x", -10);
        d.refusals(0, 0, 0, 1);
        // A byte that is refused does count, and is not in THE TEXT.
        d.retype("h4");
        d.type(128, BAD);
        d.type(';', 3);
        d.does(1);
        d.refusals(1, 0, 0, 2);
    }

    private static void back() {
        Desk d = new Desk("18: A STATE back: how many can be yet. NO: none");
        d.back(NO);
        d.back(NO);
        d.para(0, 1, 0, 0);
        d.back(0);
        d.count(0, 0);
        d.back(NO);
        d.does("h4;", 1);
        d.back(0);
        d.back(NO);
        d.refusals(0, 4, 0, 0);
    }

    private static void told() {
        Desk d = new Desk("19: BAD");
        d.told(10, BAD);
        d.told(-1, BAD);
        d.told(LOWEST, BAD);
        d.told(FARTHEST, BAD);
        // told(0) tells of those ahead of it.
        d.told(0, 4);
        d.told(0, 4);
        d = Desk.with("19: each by its number", "w0 11;w1 12;h3;l1;s4;a1;b1;t 0 0 1;");
        d.ties(0, 0, 1, NO);
        d.ties(0, 0, 1, NO);
        d.retype(repeat(" ", 120));
        d.type(32, FULL);
        d.type(32, FULL);
        d.type(32, FULL);
        d.count(10, BAD);
        int[] due = {1, 2, 3, 11, 12, 3, 1, 4, 120, 1};
        for (int what = 0; what < 10; what++) {
            d.told(what, due[what]);
        }
    }

    /** All values by the getters, put together without a limit and cut to 64 bits at the end. */
    private static void digestWrapsAround() {
        FacingPages x = new FacingPages();
        int[][] changes = {{0, 12, 3}, {1, 11, 4}, {0, 5, 98}, {1, 1, 50}, {1, 12, 7}, {0, 12, 31}};
        Check.due("20: digest() of a new object", x.digest(), digestOf(x));
        for (int[] c : changes) {
            x.para(c[0], c[1], c[2]);
        }
        x.ties(1, 0, 4);
        x.ties(0, 2, 5);
        x.sets(0, 4);
        x.sets(1, 1);
        x.type('a');
        Check.isTrue("20: there are OPENINGS of some COST", x.count(8) > 2 && x.count(9) > 0);
        Check.due("20: digest() wraps around", x.digest(), digestOf(x));
        x.para(7, 7, 7);
        x.back();
        Check.due("20: digest() behind back()", x.digest(), digestOf(x));
    }

    private static long digestOf(FacingPages x) {
        List<Integer> all = new ArrayList<>();
        for (int what = 0; what < 10; what++) {
            all.add(x.told(what));
        }
        for (int what = 0; what < 10; what++) {
            all.add(x.count(what));
        }
        for (int s = 0; s < 2; s++) {
            for (int p = 0; p < x.count(s); p++) {
                for (int what = 0; what < 5; what++) {
                    all.add(x.of(s, p, what));
                }
            }
        }
        for (int i = 0; i < x.count(4); i++) {
            for (int what = 0; what < 5; what++) {
                all.add(x.tie(i, what));
            }
        }
        for (int k = 0; k < x.count(8); k++) {
            for (int what = 0; what < 5; what++) {
                all.add(x.opening(k, what));
            }
        }
        BigInteger h = BigInteger.valueOf(2591);
        for (int v : all) {
            h = h.multiply(BigInteger.valueOf(31)).add(BigInteger.valueOf(v));
        }
        return h.longValue();
    }

    private static void digestWithoutLayout() {
        Desk d = Desk.with("20: of each OPENING, without a LAYOUT none", "w0 9;h2;l3;a 9 9 9 9;");
        int[] all = {0, 0, 0, 9, 20, 2, 3, 1, 0, 1, 1, 0, 4, 0, 0, 0, 0, 0, NONE, NONE, 4, 4, 0, NONE, NONE};
        long due = 2591;
        for (int v : all) {
            due = 31 * due + v;
        }
        d.same("digest()", d.digest(), due);
        d.same("digest() changes nothing", d.digest(), due);
    }
}
