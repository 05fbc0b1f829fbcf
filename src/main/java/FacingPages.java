/**
 * Facing pages in step: two sides of paragraphs, ties between them, and the openings
 * that leave as little white as can be. The promises stand in ../shared/DOC.md.
 */
public final class FacingPages {
    public static final int NONE = -1, BAD = -2, NO = -3, FULL = -4;

    private static final int SIDES = 2;
    private static final int MOST_PARAGRAPHS = 8;
    private static final int MOST_WORDS = 12;
    private static final int LONGEST_WORD = 9;
    private static final int MOST_SEED = 99;
    private static final int LEAST_WIDTH = 9;
    private static final int MOST_WIDTH = 40;
    private static final int FIRST_WIDTH = 20;
    private static final int MOST_LINES = 60;
    private static final int MOST_TIES = 10;
    private static final int MOST_WEIGHT = 9;
    private static final int MOST_BYTES = 120;
    private static final int LAST_BYTE = 127;
    private static final int MOST_STATES = 6;
    private static final int FAULT_BASE = -10;
    private static final int ORDER_BASE = -1000;

    private static final int HIGH = 0;
    private static final int LEAST = 1;
    private static final int SHARE = 2;
    private static final int[] SETTING_FROM = {2, 1, 0};
    private static final int[] SETTING_TO = {12, 3, 9};

    private final Book book = new Book();
    private final Book trial = new Book();
    private final States states = new States();
    private final Script script = new Script();
    private final Lines[] lines = {new Lines(), new Lines()};
    private final Choice choice = new Choice();
    private final Layout layout = new Layout();
    private final int[] refused = new int[3];
    private final int[] seeded = new int[MOST_WORDS];
    private boolean measured;
    private boolean laidOut;

    public FacingPages() {
        forgetPlans();
    }

    // ---- told by calls

    public int para(int s, int n, int seed) {
        if (!isSide(s) || !within(n, 1, MOST_WORDS) || !within(seed, 0, MOST_SEED)) {
            return refuse(BAD);
        }
        for (int k = 0; k < n; k++) {
            seeded[k] = (seed * 7 + k * k * 3 + k * 5) % 9 + 1;
        }
        return settle(copyToTry().addParagraph(s, seeded, 0, n));
    }

    public int drops(int s, int p) {
        return settle(copyToTry().dropParagraph(s, p));
    }

    public int widths(int s, int v) {
        return settle(copyToTry().changeWidth(s, v));
    }

    public int sets(int what, int v) {
        return settle(copyToTry().changeSetting(what, v));
    }

    public int ties(int p, int q, int w) {
        return settle(copyToTry().addTie(p, q, w));
    }

    public int unties(int i) {
        return settle(copyToTry().dropTie(i));
    }

    // ---- what is asked

    public int of(int s, int p, int what) {
        if (!book.hasParagraph(s, p) || !within(what, 0, 4)) {
            return refuse(BAD);
        }
        measure();
        Lines side = lines[s];
        switch (what) {
            case 0:
                return book.wordsIn(s, p);
            case 1:
                return side.first[p + 1] - side.first[p];
            case 2:
                return side.first[p];
            case 3:
                return layOut().openingWith(s, side.first[p]);
            default:
                return layOut().openingWith(s, side.first[p + 1] - 1);
        }
    }

    public int word(int s, int p, int k, int what) {
        if (!book.hasWord(s, p, k) || !within(what, 0, 1)) {
            return refuse(BAD);
        }
        return what == 0 ? book.lengthOf(s, p, k) : book.lineOf(Book.slot(s, p), k);
    }

    public int tie(int i, int what) {
        if (!book.hasTie(i) || !within(what, 0, 4)) {
            return refuse(BAD);
        }
        measure();
        switch (what) {
            case 0:
                return book.tieP[i];
            case 1:
                return book.tieQ[i];
            case 2:
                return book.tieWeight[i];
            case 3:
                return choice.kept >> i & 1;
            default:
                return Integer.bitCount(choice.crossed[i]);
        }
    }

    public int crossing(int n, int what) {
        if (n < 0 || !within(what, 0, 1)) {
            return refuse(BAD);
        }
        measure();
        int left = n;
        for (int i = 0; i < book.tieCount; i++) {
            for (int j = i + 1; j < book.tieCount; j++) {
                boolean pair = (choice.crossed[i] >> j & 1) == 1;
                if (pair && left == 0) {
                    return what == 0 ? i : j;
                }
                left -= pair ? 1 : 0;
            }
        }
        return NONE;
    }

    public int lawful(int s, int b) {
        if (!isSide(s)) {
            return refuse(BAD);
        }
        measure();
        if (!within(b, 0, lines[s].total)) {
            return refuse(BAD);
        }
        return lines[s].allowed[b] ? 1 : 0;
    }

    public int opening(int k, int what) {
        if (k < 0 || !within(what, 0, 4)) {
            return refuse(BAD);
        }
        layOut();
        if (k >= layout.openings) {
            return NONE;
        }
        switch (what) {
            case 0:
                return layout.start0[k];
            case 1:
                return layout.taken0(k);
            case 2:
                return layout.start1[k];
            case 3:
                return layout.taken1(k);
            default:
                return layout.costOf(k);
        }
    }

    public int count(int what) {
        if (!within(what, 0, 9)) {
            return refuse(BAD);
        }
        measure();
        switch (what) {
            case 0:
            case 1:
                return book.paragraphs[what];
            case 2:
            case 3:
                return lines[what - 2].total;
            case 4:
                return book.tieCount;
            case 5:
                return choice.pairs;
            case 6:
                return choice.kept;
            case 7:
                return choice.weight;
            case 8:
                return layOut().openings;
            default:
                return layOut().cost;
        }
    }

    // ---- texts

    public int type(int c) {
        if (!within(c, 0, LAST_BYTE)) {
            return refuse(BAD);
        }
        if (!script.append(c)) {
            return refuse(FULL);
        }
        return script.size;
    }

    public int clear() {
        int had = script.size;
        script.size = 0;
        return had;
    }

    public int does() {
        int fault = script.read();
        if (fault != NONE) {
            return FAULT_BASE - fault;
        }
        copyToTry();
        for (int o = 0; o < script.orders; o++) {
            if (tryOrder(o) < 0) {
                return ORDER_BASE - o;
            }
        }
        return settle(script.orders);
    }

    public int back() {
        if (!states.giveBack(book)) {
            return refuse(NO);
        }
        forgetPlans();
        return states.size;
    }

    public int told(int what) {
        switch (what) {
            case 0:
            case 1:
            case 2:
                return refused[what];
            case 3:
            case 4:
                return book.width[what - 3];
            case 5:
            case 6:
            case 7:
                return book.settings[what - 5];
            case 8:
                return script.size;
            case 9:
                return states.size;
            default:
                return refuse(BAD);
        }
    }

    public long digest() {
        long h = 2591;
        for (int what = 0; what <= 9; what++) {
            h = 31 * h + told(what);
        }
        for (int what = 0; what <= 9; what++) {
            h = 31 * h + count(what);
        }
        for (int s = 0; s < SIDES; s++) {
            for (int p = 0; p < book.paragraphs[s]; p++) {
                for (int what = 0; what <= 4; what++) {
                    h = 31 * h + of(s, p, what);
                }
            }
        }
        for (int i = 0; i < book.tieCount; i++) {
            for (int what = 0; what <= 4; what++) {
                h = 31 * h + tie(i, what);
            }
        }
        for (int k = 0; k < layOut().openings; k++) {
            for (int what = 0; what <= 4; what++) {
                h = 31 * h + opening(k, what);
            }
        }
        return h;
    }

    private static boolean within(int v, int from, int to) {
        return v >= from && v <= to;
    }

    private static boolean isSide(int s) {
        return within(s, 0, SIDES - 1);
    }

    private int refuse(int why) {
        int which = BAD - why;
        if (within(which, 0, 2)) {
            refused[which]++;
        }
        return why;
    }

    /** Changes are made on a copy, so that one that is refused leaves nothing behind. */
    private Book copyToTry() {
        trial.takeFrom(book);
        return trial;
    }

    private int settle(int answer) {
        if (answer < 0) {
            return refuse(answer);
        }
        states.keep(book);
        book.takeFrom(trial);
        forgetPlans();
        return answer;
    }

    private void forgetPlans() {
        measured = false;
        laidOut = false;
    }

    /** LINES and KEPT TIES are worked out once for all that is asked until the book changes. */
    private void measure() {
        if (measured) {
            return;
        }
        for (int s = 0; s < SIDES; s++) {
            lines[s].follow(book, s);
        }
        choice.follow(book);
        measured = true;
    }

    /** Apart from measure(), since most that is asked does without THE LAYOUT, the dearest of all. */
    private Layout layOut() {
        measure();
        if (!laidOut) {
            layout.follow(book, lines[0], lines[1], choice.kept);
            laidOut = true;
        }
        return layout;
    }

    private int tryOrder(int o) {
        int[] n = script.numbers;
        int at = script.from[o];
        int amount = script.from[o + 1] - at;
        switch (script.kinds[o]) {
            case 'a':
                return trial.addParagraph(0, n, at, amount);
            case 'b':
                return trial.addParagraph(1, n, at, amount);
            case 't':
                return trial.addTie(n[at], n[at + 1], n[at + 2]);
            case 'w':
                return trial.changeWidth(n[at], n[at + 1]);
            case 'h':
                return trial.changeSetting(HIGH, n[at]);
            case 'l':
                return trial.changeSetting(LEAST, n[at]);
            case 's':
                return trial.changeSetting(SHARE, n[at]);
            default:
                return BAD;
        }
    }

    /** All that a STATE holds. Its changes answer as the calls do, but count no refusal. */
    private static final class Book {
        private final int[] paragraphs = new int[SIDES];
        private final int[] words = new int[SIDES * MOST_PARAGRAPHS];
        private final int[] lengths = new int[SIDES * MOST_PARAGRAPHS * MOST_WORDS];
        private final int[] width = {FIRST_WIDTH, FIRST_WIDTH};
        private final int[] settings = {8, 2, 1};
        private final int[] tieP = new int[MOST_TIES];
        private final int[] tieQ = new int[MOST_TIES];
        private final int[] tieWeight = new int[MOST_TIES];
        private int tieCount;

        private void takeFrom(Book other) {
            copyRow(other.paragraphs, paragraphs);
            copyRow(other.words, words);
            copyRow(other.lengths, lengths);
            copyRow(other.width, width);
            copyRow(other.settings, settings);
            copyRow(other.tieP, tieP);
            copyRow(other.tieQ, tieQ);
            copyRow(other.tieWeight, tieWeight);
            tieCount = other.tieCount;
        }

        private static void copyRow(int[] source, int[] target) {
            System.arraycopy(source, 0, target, 0, Math.min(source.length, target.length));
        }

        private boolean hasParagraph(int s, int p) {
            return isSide(s) && p >= 0 && p < paragraphs[s];
        }

        private boolean hasWord(int s, int p, int k) {
            return hasParagraph(s, p) && k >= 0 && k < wordsIn(s, p);
        }

        private boolean hasTie(int i) {
            return i >= 0 && i < tieCount;
        }

        /** Where a PARAGRAPH's WORDS are held: SIDE 1 behind all that SIDE 0 can have. */
        private static int slot(int s, int p) {
            return s * MOST_PARAGRAPHS + p;
        }

        private int wordsIn(int s, int p) {
            return words[slot(s, p)];
        }

        private int lengthOf(int s, int p, int k) {
            return lengths[slot(s, p) * MOST_WORDS + k];
        }

        /** The LINE of the PARAGRAPH in this slot in which its WORD k is. */
        private int lineOf(int slot, int k) {
            int room = width[slot / MOST_PARAGRAPHS];
            int at = slot * MOST_WORDS;
            int line = 0;
            int used = lengths[at];
            for (int i = 1; i <= k; i++) {
                int length = lengths[at + i];
                if (used + 1 + length <= room) {
                    used += 1 + length;
                } else {
                    line++;
                    used = length;
                }
            }
            return line;
        }

        private int linesIn(int slot) {
            return lineOf(slot, words[slot] - 1) + 1;
        }

        private int linesOfSide(int s) {
            int sum = 0;
            for (int p = 0; p < paragraphs[s]; p++) {
                sum += linesIn(slot(s, p));
            }
            return sum;
        }

        private int addParagraph(int s, int[] row, int at, int n) {
            for (int k = 0; k < n; k++) {
                if (!within(row[at + k], 1, LONGEST_WORD)) {
                    return BAD;
                }
            }
            int p = paragraphs[s];
            if (p >= MOST_PARAGRAPHS) {
                return FULL;
            }
            int slot = slot(s, p);
            words[slot] = n;
            System.arraycopy(row, at, lengths, slot * MOST_WORDS, n);
            if (linesOfSide(s) + linesIn(slot) > MOST_LINES) {
                return FULL;
            }
            paragraphs[s]++;
            return p;
        }

        private int dropParagraph(int s, int p) {
            if (!hasParagraph(s, p)) {
                return BAD;
            }
            int behind = paragraphs[s] - p - 1;
            int here = slot(s, p);
            System.arraycopy(words, here + 1, words, here, behind);
            System.arraycopy(lengths, (here + 1) * MOST_WORDS, lengths, here * MOST_WORDS, behind * MOST_WORDS);
            paragraphs[s]--;
            return dropTiesOf(s == 0 ? tieP : tieQ, p);
        }

        /** The ends are tieP or tieQ: the TIES of p there go, ends behind p become one less. */
        private int dropTiesOf(int[] ends, int p) {
            int before = tieCount;
            for (int i = before - 1; i >= 0; i--) {
                if (ends[i] == p) {
                    dropTie(i);
                } else if (ends[i] > p) {
                    ends[i]--;
                }
            }
            return before - tieCount;
        }

        private int changeWidth(int s, int v) {
            if (!isSide(s) || !within(v, LEAST_WIDTH, MOST_WIDTH)) {
                return BAD;
            }
            int was = width[s];
            width[s] = v;
            if (linesOfSide(s) > MOST_LINES) {
                width[s] = was;
                return FULL;
            }
            return was;
        }

        private int changeSetting(int what, int v) {
            if (!within(what, HIGH, SHARE) || !within(v, SETTING_FROM[what], SETTING_TO[what])) {
                return BAD;
            }
            int was = settings[what];
            settings[what] = v;
            return was;
        }

        private int addTie(int p, int q, int w) {
            if (!hasParagraph(0, p) || !hasParagraph(1, q) || !within(w, 1, MOST_WEIGHT)) {
                return BAD;
            }
            for (int i = 0; i < tieCount; i++) {
                if (tieP[i] == p && tieQ[i] == q) {
                    return NO;
                }
            }
            if (tieCount >= MOST_TIES) {
                return FULL;
            }
            tieP[tieCount] = p;
            tieQ[tieCount] = q;
            tieWeight[tieCount] = w;
            tieCount++;
            return tieCount - 1;
        }

        private int dropTie(int i) {
            if (!hasTie(i)) {
                return BAD;
            }
            int behind = tieCount - i - 1;
            System.arraycopy(tieP, i + 1, tieP, i, behind);
            System.arraycopy(tieQ, i + 1, tieQ, i, behind);
            System.arraycopy(tieWeight, i + 1, tieWeight, i, behind);
            tieCount--;
            return tieCount;
        }

        private boolean cross(int i, int j) {
            return tieP[i] < tieP[j] && tieQ[i] > tieQ[j] || tieP[i] > tieP[j] && tieQ[i] < tieQ[j];
        }
    }

    /** The STATES to go back to, the oldest first; their books are made once and used again. */
    private static final class States {
        private final Book[] kept = new Book[MOST_STATES];
        private int size;

        private States() {
            for (int i = 0; i < MOST_STATES; i++) {
                kept[i] = new Book();
            }
        }

        private void keep(Book book) {
            if (size >= MOST_STATES) {
                loseOldest();
            }
            kept[size].takeFrom(book);
            size++;
        }

        private void loseOldest() {
            Book oldest = kept[0];
            for (int i = 1; i < MOST_STATES; i++) {
                kept[i - 1] = kept[i];
            }
            kept[MOST_STATES - 1] = oldest;
            size = MOST_STATES - 1;
        }

        private boolean giveBack(Book book) {
            if (size <= 0) {
                return false;
            }
            size--;
            book.takeFrom(kept[size]);
            return true;
        }
    }

    /** THE TEXT, and the ORDERS that the last reading found in it. */
    private static final class Script {
        private static final int NO_KIND = 0;

        private final byte[] bytes = new byte[MOST_BYTES];
        private int size;
        // An ORDER and a number take a byte each at least: no row is outgrown.
        private final int[] kinds = new int[MOST_BYTES];
        private final int[] from = new int[MOST_BYTES + 1];
        private final int[] numbers = new int[MOST_BYTES];
        private int orders;
        private int numbersRead;
        private int kind;
        private int figures;

        private boolean append(int c) {
            if (size >= MOST_BYTES) {
                return false;
            }
            bytes[size] = (byte) c;
            size++;
            return true;
        }

        /** The FAULT, or NONE. */
        private int read() {
            orders = 0;
            numbersRead = 0;
            kind = NO_KIND;
            figures = 0;
            from[0] = 0;
            for (int i = 0; i < size; i++) {
                if (!accepts(bytes[i])) {
                    return i;
                }
            }
            return kind != NO_KIND || orders == 0 ? size : NONE;
        }

        private boolean accepts(int c) {
            if (c == ' ') {
                figures = 0;
                return true;
            }
            if (c == ';') {
                return endOrder();
            }
            if (within(c, '0', '9')) {
                return takeFigure(c - '0');
            }
            return beginOrder(c);
        }

        private boolean beginOrder(int c) {
            if (kind != NO_KIND || mostNumbers(c) == 0) {
                return false;
            }
            kind = c;
            figures = 0;
            return true;
        }

        private boolean takeFigure(int figure) {
            if (kind == NO_KIND || figures >= 2) {
                return false;
            }
            if (figures == 1) {
                numbers[numbersRead - 1] = numbers[numbersRead - 1] * 10 + figure;
                figures = 2;
                return true;
            }
            if (numbersOfOrder() >= mostNumbers(kind)) {
                return false;
            }
            numbers[numbersRead] = figure;
            numbersRead++;
            figures = 1;
            return true;
        }

        private boolean endOrder() {
            if (kind == NO_KIND || numbersOfOrder() < leastNumbers(kind)) {
                return false;
            }
            kinds[orders] = kind;
            orders++;
            from[orders] = numbersRead;
            kind = NO_KIND;
            return true;
        }

        private int numbersOfOrder() {
            return numbersRead - from[orders];
        }

        /** 0: no ORDER begins so. */
        private static int mostNumbers(int c) {
            switch (c) {
                case 'a':
                case 'b':
                    return MOST_WORDS;
                case 't':
                    return 3;
                case 'w':
                    return 2;
                case 'h':
                case 'l':
                case 's':
                    return 1;
                default:
                    return 0;
            }
        }

        private static int leastNumbers(int c) {
            return c == 'a' || c == 'b' ? 1 : mostNumbers(c);
        }
    }

    /** The LINES of a SIDE: where each PARAGRAPH begins, and the LAWFUL BREAKS. */
    private static final class Lines {
        /** Behind the last PARAGRAPH's first LINE stands the number of all. */
        private final int[] first = new int[MOST_PARAGRAPHS + 1];
        private final boolean[] allowed = new boolean[MOST_LINES + 1];
        private int total;

        private void follow(Book book, int s) {
            total = 0;
            first[0] = 0;
            for (int p = 0; p < book.paragraphs[s]; p++) {
                int own = book.linesIn(Book.slot(s, p));
                allowBreaks(own, book.settings[LEAST]);
                total += own;
                first[p + 1] = total;
            }
            allowed[total] = true;
        }

        private void allowBreaks(int own, int least) {
            for (int ahead = 0; ahead < own; ahead++) {
                allowed[total + ahead] = ahead == 0 || ahead >= least && own - ahead >= least;
            }
        }
    }

    /** Which TIES CROSS, and which are KEPT. */
    private static final class Choice {
        /** Of each TIE those that it CROSSES, as bits. */
        private final int[] crossed = new int[MOST_TIES];
        private int pairs;
        private int kept;
        private int weight;

        private void follow(Book book) {
            findCrossed(book);
            kept = 0;
            weight = 0;
            // From the least bits on, so that of equals the first stays.
            for (int set = 1; set < 1 << book.tieCount; set++) {
                int together = weightOf(set, book);
                boolean more = Integer.bitCount(set) > Integer.bitCount(kept);
                if (together > weight || together == weight && more) {
                    kept = set;
                    weight = together;
                }
            }
        }

        private void findCrossed(Book book) {
            int ends = 0;
            for (int i = 0; i < book.tieCount; i++) {
                crossed[i] = 0;
                for (int j = 0; j < book.tieCount; j++) {
                    if (book.cross(i, j)) {
                        crossed[i] |= 1 << j;
                        ends++;
                    }
                }
            }
            pairs = ends / 2;
        }

        /** The WEIGHT of a set together; NONE: two of it CROSS. */
        private int weightOf(int set, Book book) {
            int sum = 0;
            for (int i = 0; i < book.tieCount; i++) {
                if ((set >> i & 1) == 1) {
                    if ((crossed[i] & set) != 0) {
                        return NONE;
                    }
                    sum += book.tieWeight[i];
                }
            }
            return sum;
        }
    }

    /** THE LAYOUT, found from the end: how dear the rest is behind each pair of BREAKS. */
    private static final class Layout {
        private static final int MOST_OPENINGS = SIDES * MOST_LINES;
        private static final int MOST_HIGH = 12;
        private static final int TOLL_ROW = MOST_HIGH + 1;
        private static final int ROW = MOST_LINES + 1;
        /** Above every rank: 120 OPENINGS of COST 1584 come to less than 25 million. */
        private static final int NEVER = 1 << 30;
        /** A rank is COST times this and OPENINGS (120 at most): one number tells both apart. */
        private static final int COST_UNIT = 128;

        private final int[] toll = new int[TOLL_ROW * TOLL_ROW];
        private final int[] rank = new int[ROW * ROW];
        private final int[] begun0 = new int[ROW];
        private final int[] begun1 = new int[ROW];
        private final int[] start0 = new int[MOST_OPENINGS + 1];
        private final int[] start1 = new int[MOST_OPENINGS + 1];
        private int high;
        private int total0;
        private int total1;
        private int openings;
        private int cost;

        private void follow(Book book, Lines lines0, Lines lines1, int kept) {
            high = Math.min(book.settings[HIGH], MOST_HIGH);
            total0 = lines0.total;
            total1 = lines1.total;
            setTolls(book.settings[SHARE]);
            markBegun(begun0, book.tieP, lines0, kept);
            markBegun(begun1, book.tieQ, lines1, kept);
            rankAll(lines0.allowed, lines1.allowed);
            walk();
        }

        private void setTolls(int share) {
            for (int x = 0; x <= high; x++) {
                for (int y = 0; y <= high; y++) {
                    int white0 = high - x;
                    int white1 = high - y;
                    int apart = white0 - white1;
                    toll[x * TOLL_ROW + y] = white0 * white0 + white1 * white1 + share * apart * apart;
                }
            }
        }

        /** Of each BREAK of a SIDE the KEPT TIES, as bits, whose PARAGRAPH there begins ahead of it. */
        private static void markBegun(int[] begun, int[] ends, Lines lines, int kept) {
            for (int b = 0; b <= lines.total; b++) {
                begun[b] = 0;
                for (int i = 0; i < MOST_TIES; i++) {
                    if ((kept >> i & 1) == 1 && lines.first[ends[i]] < b) {
                        begun[b] |= 1 << i;
                    }
                }
            }
        }

        /**
         * A TIE's two first LINES are on one OPENING just if no OPENING ends between them,
         * so OPENINGS may end where the same TIES have begun on both SIDES.
         */
        private void rankAll(boolean[] allowed0, boolean[] allowed1) {
            for (int i = total0; i >= 0; i--) {
                for (int j = total1; j >= 0; j--) {
                    boolean may = allowed0[i] && allowed1[j] && begun0[i] == begun1[j];
                    rank[i * ROW + j] = may ? leastRank(i, j, allowed0) : NEVER;
                }
            }
        }

        private int leastRank(int i, int j, boolean[] allowed0) {
            if (i == total0 && j == total1) {
                return 0;
            }
            int best = NEVER;
            for (int x = Math.min(high, total0 - i); x >= 0; x--) {
                if (!allowed0[i + x]) {
                    continue;
                }
                int rests = (i + x) * ROW + j;
                for (int y = Math.min(high, total1 - j); x + y > 0 && y >= 0; y--) {
                    // A rest that is as dear as the best way by itself leads to no better one.
                    if (rank[rests + y] < best) {
                        best = Math.min(best, rankBy(i, j, x, y));
                    }
                }
            }
            return best;
        }

        /** The rank at i, j if the next OPENING takes x and y LINES. */
        private int rankBy(int i, int j, int x, int y) {
            int rest = rank[(i + x) * ROW + j + y];
            if (rest == NEVER) {
                return NEVER;
            }
            boolean last = i + x == total0 && j + y == total1;
            return rest + 1 + (last ? 0 : toll[x * TOLL_ROW + y] * COST_UNIT);
        }

        private void walk() {
            start0[0] = 0;
            start1[0] = 0;
            openings = NONE;
            cost = NONE;
            if (rank[0] == NEVER) {
                return;
            }
            openings = rank[0] % COST_UNIT;
            cost = rank[0] / COST_UNIT;
            for (int k = 0; k < openings && k < MOST_OPENINGS; k++) {
                takeMost(k);
            }
        }

        /** Of the best ways on from OPENING k's start the one that takes most of SIDE 0, then of SIDE 1. */
        private void takeMost(int k) {
            int i = start0[k];
            int j = start1[k];
            int due = rank[i * ROW + j];
            for (int x = Math.min(high, total0 - i); x >= 0; x--) {
                for (int y = Math.min(high, total1 - j); x + y > 0 && y >= 0; y--) {
                    if (rankBy(i, j, x, y) == due) {
                        start0[k + 1] = i + x;
                        start1[k + 1] = j + y;
                        return;
                    }
                }
            }
        }

        private int taken0(int k) {
            return start0[k + 1] - start0[k];
        }

        private int taken1(int k) {
            return start1[k + 1] - start1[k];
        }

        private int costOf(int k) {
            return k == openings - 1 ? 0 : toll[taken0(k) * TOLL_ROW + taken1(k)];
        }

        /** The OPENING on which a LINE of SIDE s is; NONE: there is no LAYOUT. */
        private int openingWith(int s, int line) {
            int[] start = s == 0 ? start0 : start1;
            for (int k = 0; k < openings; k++) {
                if (line < start[k + 1]) {
                    return k;
                }
            }
            return NONE;
        }
    }
}
