import java.util.ArrayList;
import java.util.List;

/** Promises 15 to 19 and 21: what is seen of an open() at each boundary, one by one. */
public final class SeenEdgesTest {
    private static final int BAD = BrotliWords.BAD;
    private static final int MIN = Integer.MIN_VALUE, MAX = Integer.MAX_VALUE;

    public static void main(String[] args) {
        readBeforeAny();
        readIsOfTheLatestOpen();
        partsThatAreThere();
        partsUpTo60();
        whatOfAPart();
        emptyIsSureBehindItsBit();
        passedOverIsSureBehindItsTwoBits();
        lengthOfOnePassedOver();
        lastIsSureBehindLength();
        othersAreSureBehindTheBitRaw();
        rules5And17ComeAheadOfThePart();
        eachBitOfAHead();
        commandsWithTheirBits();
        copiesAndWordsThatWereMade();
        ringTakes0To3();
        ringThatABrokenRuleLeft();
        mapTakesNumbersThatAreThere();
        lengthTakesSignsThatAreThere();
        codesReadToTheirEnd();
        latestPartWithCodes();
        loneSignsBehindOthers();
        otherCallsLeaveWhatIsSeen();
        countTakes0To4();
        Check.finish();
    }

    /**
     * Opens a row that ends just behind the bits of the second PART: a first PART, 'a', shifts
     * them so that they end with a byte.
     */
    private static BrotliWords endsBehind(String name, String bits) {
        int size = bits.replace(" ", "").length();
        Bits row = TestRows.shift(TestRows.start(), Math.floorMod(-size, 8)).plain(bits);
        Check.due(name + ": ends with a byte", row.size() % 8, 0);
        BrotliWords x = new BrotliWords();
        Check.feedAll(x, row.bytes());
        Check.due(name + ": open()", x.open(), -11);
        Check.due(name + ": read()", x.read(), row.size());
        Check.due(name + ": OUT", x.count(2), 0);
        Check.due(name + ": the first PART", x.part(0, 0), 3);
        Check.due(name + ": its command", x.part(0, 9), 1);
        return x;
    }

    private static void noSecond(String name, String bits) {
        BrotliWords x = endsBehind(name, bits);
        Check.due(name + ": PARTS", x.count(3), 1);
        Check.due(name + ": part(1, 0)", x.part(1, 0), BAD);
    }

    private static void second(String name, String bits, int... due) {
        BrotliWords x = endsBehind(name, bits);
        Check.due(name + ": PARTS", x.count(3), 2);
        for (int what = 0; what < 12; what++) {
            Check.due(name + ": part(1, " + what + ")", x.part(1, what), what < due.length ? due[what] : 0);
        }
    }

    private static void readBeforeAny() {
        BrotliWords x = new BrotliWords();
        Check.due("read() of a new one", x.read(), 0);
        Check.feedAll(x, "something");
        x.pack(1);
        x.pass();
        Check.due("read() behind pack() and pass()", x.read(), 0);
        x.wipe();
        x.open();
        Check.due("read() of nothing", x.read(), 0);
    }

    private static void readIsOfTheLatestOpen() {
        BrotliWords x = new BrotliWords();
        Check.feedAll(x, "latest");
        int size = x.pack(0);
        x.pass();
        x.open();
        Check.due("read()", x.read(), 8 * size);
        Check.feedAll(x, "other");
        x.pack(2);
        Check.due("read() behind pack()", x.read(), 8 * size);
        x.pass();
        x.spoil(1, 1);
        x.open();
        Check.due("read() of the next one", x.read(), 16);
        x.open();
        Check.due("read() of an empty one", x.read(), 0);
        // The most: 2,400 bytes.
        Bits row = TestRows.start().plain("0 11 0").number(2, 2).number(2393, 16).text("p".repeat(2394)).plain("11");
        Check.due("2,400 bytes", row.toWholeByte().size(), 19200);
        TestRows.opened(x, "2,400 bytes", row, 0, 19200);
    }

    private static void partsThatAreThere() {
        BrotliWords x = new BrotliWords();
        TestRows.opened(x, "two", TestRows.raw(TestRows.start(), "ab").plain("11"), "ab");
        for (int i : new int[] {-1, 2, 59, 60, MIN, MAX}) {
            Check.due("part(" + i + ", 0)", x.part(i, 0), BAD);
        }
        Check.due("part(0, 0)", x.part(0, 0), 2);
        Check.due("part(1, 0)", x.part(1, 0), 0);
        x.open();
        Check.due("no PART of an empty one", x.part(0, 0), BAD);
        Check.due("count(3)", x.count(3), 0);
    }

    /** The first 60 are told, all are counted: also of one that breaks a RULE. */
    private static void partsUpTo60() {
        for (int many : new int[] {59, 60, 61, 300, 2396}) {
            Bits row = TestRows.start().plain("0 11 0 00").toWholeByte();
            for (int i = 1; i < many - 1; i++) {
                row.plain("0 11 0 00").toWholeByte();
            }
            row.plain("11").toWholeByte();
            BrotliWords x = TestRows.opened(many + " PARTS", row, 0, row.size());
            Check.due(many + ": count(3)", x.count(3), many);
            for (int i : new int[] {0, 57, 58, 59, 60, 61, many - 1, many}) {
                int due = i >= many || i >= 60 ? BAD : i == many - 1 ? 0 : 1;
                Check.due(many + ": part(" + i + ", 0)", x.part(i, 0), due);
                Check.due(many + ": part(" + i + ", 11)", x.part(i, 11), Math.min(due, 0));
            }
        }
        // What the 61st one has does not come to the 60th.
        Bits row = TestRows.start().plain("0 11 0 00").toWholeByte();
        for (int i = 1; i < 59; i++) {
            row.plain("0 11 0 00").toWholeByte();
        }
        TestRows.raw(row, "rw");
        TestRows.codes(TestRows.lastHead(row, 2), TestRows.command(0, 0), 8);
        BrotliWords x = new BrotliWords();
        TestRows.opened(x, "61 PARTS", row, "rwww");
        Check.due("part(59, 0)", x.part(59, 0), 2);
        Check.due("part(59, 1)", x.part(59, 1), 2);
        for (int what = 2; what < 12; what++) {
            Check.due("part(59, " + what + ")", x.part(59, what), 0);
        }
        Check.due("part(60, 9)", x.part(60, 9), BAD);
        Check.due("ring(0) of the 61st", x.ring(0), 1);
        Check.due("length() of the 61st", x.length(0, 0, 'a'), 0);
        theSixtieth();
    }

    /** Of the 60th PART all is told, its commands as well. */
    private static void theSixtieth() {
        Bits row = TestRows.start().plain("0 11 0 00").toWholeByte();
        for (int i = 1; i < 58; i++) {
            row.plain("0 11 0 00").toWholeByte();
        }
        TestRows.raw(row, "rw");
        TestRows.codes(TestRows.lastHead(row, 6), TestRows.command(0, 1), 16).plain("0 1");
        BrotliWords x = new BrotliWords();
        TestRows.opened(x, "60 PARTS", row, "rwwwwwww");
        int[] due = {3, 6, 1, 1, 1, 1, 1, 0, 0, 2, 2, 0};
        for (int what = 0; what < 12; what++) {
            Check.due("part(59, " + what + ")", x.part(59, what), due[what]);
        }
        Check.due("count(3)", x.count(3), 60);
    }

    private static void whatOfAPart() {
        BrotliWords x = new BrotliWords();
        TestRows.opened(x, "a PART", TestRows.raw(TestRows.start(), "ab").plain("11"), "ab");
        for (int what : new int[] {-1, 12, 13, MIN, MAX}) {
            Check.due("part(0, " + what + ")", x.part(0, what), BAD);
        }
        int[] due = {2, 2, 0, 0, 0, 0, 0, 0, 0, 0, 0, 0};
        for (int what = 0; what < 12; what++) {
            Check.due("part(0, " + what + ")", x.part(0, what), due[what]);
            Check.due("part(1, " + what + ")", x.part(1, what), 0);
        }
    }

    private static void emptyIsSureBehindItsBit() {
        noSecond("no bit", "");
        noSecond("LAST", "1");
        // With the bit EMPTY it is all: the row is opened.
        Bits row = TestRows.shift(TestRows.start(), 6).plain("11");
        BrotliWords x = TestRows.opened("EMPTY", row, 1, row.size());
        Check.due("PARTS", x.count(3), 2);
        Check.due("its sort", x.part(1, 0), 0);
        noSecond("LAST, not EMPTY", "1 0");
    }

    private static void passedOverIsSureBehindItsTwoBits() {
        noSecond("not LAST", "0");
        noSecond("a bit of two", "0 1");
        second("two bits", "0 11", 1);
        second("its bit 0", "0 11 0", 1);
        // Its bit 1 breaks RULE 4, and it is a PART by then.
        Bits row = TestRows.shift(TestRows.start(), 4).plain("0 11 1");
        BrotliWords x = TestRows.opened("its bit 1", row, -14, row.size());
        Check.due("PARTS", x.count(3), 2);
        Check.due("its sort", x.part(1, 0), 1);
        // Of one that is LAST RULE 4 is broken behind the two bits: it is none.
        row = TestRows.shift(TestRows.start(), 4).plain("1 0 11");
        x = TestRows.opened("LAST", row, -14, row.size());
        Check.due("PARTS", x.count(3), 1);
    }

    private static void lengthOfOnePassedOver() {
        second("a bit of s", "0 11 0 1", 1);
        second("s = 1", "0 11 0 10", 1, 0);
        second("seven bits of its number", "0 11 0 10 1110000", 1, 0);
        second("its number 7", "0 11 0 10 11100000", 1, 8);
        second("s = 2, a byte of its number", "0 11 0 01 11111111", 1, 0);
        second("s = 2, its number 511", "0 11 0 01 11111111 10000000", 1, 512);
        second("s = 3, two bytes of its number", "0 11 0 11 11111111 11111111", 1, 0);
        second("s = 3, its number", "0 11 0 11 11111111 11111111 11111111", 1, 1 << 24);
        // s = 0: nothing is passed over.
        second("s = 0", "0 11 0 00", 1, 0);
    }

    private static void lastIsSureBehindLength() {
        for (int k = 0; k < 16; k++) {
            noSecond(k + " bits of LENGTH, LAST", "1 0 00" + "1010000000000000".substring(0, k));
        }
        second("LENGTH, LAST", "1 0 00 1010000000000000", 3, 6);
    }

    private static void othersAreSureBehindTheBitRaw() {
        noSecond("LENGTH, not LAST", "0 00 1010000000000000");
        second("RAW", "0 00 1010000000000000 1", 2, 6);
        second("not RAW", "0 00 1010000000000000 0", 3, 6);
        noSecond("the 2 bits of NIBBLES", "0 00");
    }

    private static void rules5And17ComeAheadOfThePart() {
        String[] broken = {"1 0 10" + "0".repeat(20), "0 10" + "0".repeat(20), "1 0 01" + "0".repeat(24), "0 01" + "0".repeat(24)};
        for (String bits : broken) {
            Bits row = TestRows.shift(TestRows.start(), 0).plain(bits);
            BrotliWords x = TestRows.opened("RULE 5 by " + bits, row, -15, row.size());
            Check.due("PARTS", x.count(3), 1);
        }
        // One byte is there: 2,999 more are all.
        for (String last : new String[] {"1 0 00", "0 00"}) {
            Bits row = TestRows.shift(TestRows.start(), 0).plain(last).number(2999, 16);
            BrotliWords x = TestRows.opened("RULE 17, " + last, row, -27, row.size());
            Check.due("PARTS", x.count(3), 1);
        }
    }

    /** Bits that tell something, and what part() tells of the PART by then. */
    private static final class Step {
        final String bits;
        final int what;
        final int value;

        Step(String bits, int what, int value) {
            this.bits = bits.replace(" ", "");
            this.what = what;
            this.value = value;
        }
    }

    private static List<Step> steps() {
        List<Step> steps = new ArrayList<>();
        steps.add(new Step("1 0 00 0010000000000000", 1, 5));
        // Three KINDS of literals: CODE of five signs, of 26 signs, a COUNT: 1 and two bits.
        steps.add(new Step("1 100 0", 2, 3));
        steps.add(new Step("10 00 000" + "10 00 00000" + "11", 2, 3));
        steps.add(new Step("0", 3, 1));
        steps.add(new Step("1 000", 4, 2));
        steps.add(new Step("10 00 00" + "10 00 10000" + "10", 4, 2));
        steps.add(new Step("01", 7, 2));
        steps.add(new Step("1010", 8, 20));
        steps.add(new Step("00 00 00", 8, 20));
        steps.add(new Step("1 000", 5, 2));
        // No RUNS, a CODE of two signs, a lone 1; not moved to the front.
        steps.add(new Step("0 10 00 1 0", 5, 2));
        steps.add(new Step("1 100 1", 6, 4));
        steps.add(new Step("0 10 00 01 0", 6, 4));
        return steps;
    }

    /** The head of a PART that ends at each of its bits: a number is told as soon as its last bit was read. */
    private static void eachBitOfAHead() {
        StringBuilder all = new StringBuilder();
        int[] due = {3, 0, 0, 0, 0, 0, 0, 0, 0, 0, 0, 0};
        for (Step step : steps()) {
            for (int k = 1; k <= step.bits.length(); k++) {
                String bits = all + step.bits.substring(0, k);
                if (k == step.bits.length()) {
                    due[step.what] = step.value;
                }
                if (due[1] == 0) {
                    noSecond("bit " + bits.length(), bits);
                } else {
                    second("bit " + bits.length(), bits, due);
                }
            }
            all.append(step.bits);
        }
    }

    /** A command counts behind its bits, ahead of its literals, and if it breaks RULE 8. */
    private static void commandsWithTheirBits() {
        // INSERT code 6 (a bit more), COPY code 8 (a bit more), cell 3; LENGTH 9, a CODE of two literals.
        Bits head = TestRows.lastHead(new Bits(), 9);
        TestRows.two(head, 'a', 'b', 8);
        TestRows.lone(head, 3 * 64 + 8 * 6, 10);
        TestRows.lone(head, 0, 6);
        int[] due = {3, 9, 1, 1, 1, 1, 1, 0, 0, 0, 0, 0};
        second("no bit of it", head.row.toString(), due);
        second("INSERT's bit", head.row + "0", due);
        due[9] = 1;
        second("COPY's bit", head.row + "00", due);
        second("five literals of six", head.row + "00 01010", due);
        // A second command: of two, '0' is one without bits.
        head = TestRows.lastHead(new Bits(), 30);
        TestRows.lone(head, 'a', 8);
        TestRows.two(head, 8 * 4, 3 * 64 + 8 * 6, 10);
        TestRows.lone(head, 0, 6);
        due = new int[] {3, 30, 1, 1, 1, 1, 1, 0, 0, 0, 0, 0};
        second("no sign of it", head.row.toString(), due);
        due[9] = 1;
        due[10] = 1;
        second("a sign without bits", head.row + "0", due);
        second("a second sign", head.row + "0 1", due);
        second("a second sign and a bit", head.row + "0 1 0", due);
        due[9] = 2;
        due[10] = 2;
        second("a second sign and its bits", head.row + "0 1 00", due);
    }

    private static void copiesAndWordsThatWereMade() {
        // LENGTH 10: INSERT 4 and COPY 2 at 4; then COPY 2 by a sign of a bit more, which is missing.
        Bits head = TestRows.lastHead(new Bits(), 10);
        TestRows.lone(head, 'a', 8);
        TestRows.two(head, 8 * 4, TestRows.command(0, 0), 10);
        TestRows.lone(head, 16, 6);
        int[] due = {3, 10, 1, 1, 1, 1, 1, 0, 0, 1, 1, 0};
        second("a copy", head.row + "0", due);
        due[9] = 2;
        second("a copy whose distance is missing", head.row + "0 1", due);
        due[9] = 3;
        due[10] = 2;
        // Behind it the next command, whose sign is missing, is not counted; here it is '1'.
        second("a second copy", head.row + "0 1 0 1", due);
        // A word: its DISTANCE is above MOST.
        BrotliWords x = new BrotliWords();
        Check.addWord(x, "made");
        Bits row = TestRows.lastHead(TestRows.start(x), 12);
        TestRows.lone(row, 'a', 8);
        TestRows.lone(row, TestRows.command(0, 2), 10);
        TestRows.two(row, 16, 18, 6);
        // y = 0 (DISTANCE 1), y = 0 (DISTANCE 5 by sign 18, two bits), then sign 16: a COPY at 2.
        row.plain("0 0").plain("1 00").plain("0 1");
        TestRows.opened(x, "two words and a copy", row, "mademadedede");
        Check.due("commands", x.part(0, 9), 3);
        Check.due("copies", x.part(0, 10), 1);
        Check.due("words", x.part(0, 11), 2);
        // What breaks a RULE was not made: 10 and 8 of a word, 8 of a copy, 9.
        row = TestRows.lastHead(TestRows.start(x), 3);
        TestRows.codes(row, TestRows.command(0, 2), 16).plain("0");
        int read = row.size();
        TestRows.opened(x, "a word of 4 of 3", row.toWholeByte(), -18, read);
        Check.due("commands", x.part(0, 9), 1);
        Check.due("words", x.part(0, 11), 0);
    }

    private static void ringTakes0To3() {
        for (int i : new int[] {-1, 4, 5, MIN, MAX}) {
            Check.due("ring(" + i + ")", new BrotliWords().ring(i), BAD);
        }
        int[] due = {4, 11, 15, 16};
        for (int i = 0; i < 4; i++) {
            Check.due("ring(" + i + ")", new BrotliWords().ring(i), due[i]);
        }
    }

    private static void ringThatABrokenRuleLeft() {
        BrotliWords x = new BrotliWords();
        // Two copies, at 1 and 2, then a LENGTH that is not kept: RULE 8.
        Bits row = TestRows.raw(TestRows.start(), "abcdef");
        TestRows.lastHead(row, 5);
        TestRows.codes(row, TestRows.command(0, 0), 16).plain("0 1 1");
        int read = row.size();
        TestRows.opened(x, "RULE 8", row.toWholeByte(), -18, read);
        int[] due = {2, 1, 4, 11};
        for (int i = 0; i < 4; i++) {
            Check.due("ring(" + i + ")", x.ring(i), due[i]);
        }
        // RULE 2 leaves it as it is at first.
        TestRows.opened(x, "RULE 2", new Bits().number(0, 16), -12, 16);
        Check.due("ring(0)", x.ring(0), 4);
        Check.due("ring(1)", x.ring(1), 11);
    }

    private static BrotliWords oneByte() {
        BrotliWords x = new BrotliWords();
        Bits row = TestRows.lastHead(TestRows.start(), 1);
        TestRows.two(row, 'a', 'b', 8);
        TestRows.lone(row, TestRows.command(1, 0), 10);
        TestRows.opened(x, "a byte", TestRows.two(row, 3, 63, 6).plain("1"), "b");
        return x;
    }

    private static void mapTakesNumbersThatAreThere() {
        BrotliWords x = oneByte();
        for (int i = 0; i < 64; i++) {
            Check.due("map(0, " + i + ")", x.map(0, i), 0);
        }
        for (int i : new int[] {-1, 64, 768, MIN, MAX}) {
            Check.due("map(0, " + i + ")", x.map(0, i), BAD);
        }
        for (int i : new int[] {-1, 4, 48, MIN, MAX}) {
            Check.due("map(1, " + i + ")", x.map(1, i), BAD);
        }
        Check.due("map(1, 3)", x.map(1, 3), 0);
        for (int sort : new int[] {-1, 2, 3, MIN, MAX}) {
            Check.due("map(" + sort + ", 0)", x.map(sort, 0), BAD);
        }
    }

    private static void lengthTakesSignsThatAreThere() {
        BrotliWords x = oneByte();
        int[] signs = {256, 704, 64};
        for (int sort = 0; sort < 3; sort++) {
            Check.due("the first sign", x.length(sort, 0, 0), 0);
            Check.due("the last sign", x.length(sort, 0, signs[sort] - 1), sort == 2 ? 1 : 0);
            for (int sign : new int[] {-1, signs[sort], MIN, MAX}) {
                Check.due("length(" + sort + ", 0, " + sign + ")", x.length(sort, 0, sign), BAD);
            }
            for (int tree : new int[] {-1, 1, 12, MIN, MAX}) {
                Check.due("length(" + sort + ", " + tree + ", 0)", x.length(sort, tree, 0), BAD);
            }
        }
        for (int sort : new int[] {-1, 3, 4, MIN, MAX}) {
            Check.due("length(" + sort + ", 0, 0)", x.length(sort, 0, 0), BAD);
        }
        Check.due("one of two", x.length(0, 0, 'a'), 1);
        Check.due("a lone one", x.length(1, 0, TestRows.command(1, 0)), 0);
        Check.due("one that has none", x.length(0, 0, 'c'), 0);
    }

    /** The row of bits ends at each bit of the last CODE: only behind it there is a PART to ask for. */
    private static void codesReadToTheirEnd() {
        Bits head = TestRows.lastHead(new Bits(), 2);
        TestRows.two(head, 'x', 'y', 8);
        TestRows.lone(head, TestRows.command(2, 0), 10);
        String last = TestRows.two(new Bits(), 5, 6, 6).row.toString();
        for (int k = 0; k <= last.length(); k++) {
            BrotliWords x = endsBehind("bit " + k + " of the last CODE", head.row + last.substring(0, k));
            boolean all = k == last.length();
            // The first PART, 'a' alone, is the one that is told until then.
            Check.due("LENGTH of x", x.length(0, 0, 'x'), all ? 1 : 0);
            Check.due("LENGTH of sign 5", x.length(2, 0, 5), all ? 1 : 0);
            Check.due("map(0, 0)", x.map(0, 0), 0);
        }
        // Without a PART before it there is none to ask for.
        Bits row = TestRows.lastHead(TestRows.start(), 1);
        TestRows.lone(row, 'a', 8);
        TestRows.lone(row, TestRows.command(1, 0), 10);
        row.number(1, 2).number(0, 2);
        row.toWholeByte();
        BrotliWords x = TestRows.opened("no CODE of distances", row, -11, row.size());
        Check.due("map(0, 0)", x.map(0, 0), BAD);
        Check.due("map(1, 0)", x.map(1, 0), BAD);
        for (int sort = 0; sort < 3; sort++) {
            Check.due("length()", x.length(sort, 0, 0), BAD);
        }
    }

    /** RAW, PASSED OVER and EMPTY ones do not count; a KIND more and one less is told as it is. */
    private static void latestPartWithCodes() {
        Bits row = TestRows.start().plain("0 00").number(0, 16).plain("0");
        // Two KINDS of each SORT, POSTFIX 1, DIRECT 2.
        for (int sort = 0; sort < 3; sort++) {
            TestRows.lone(row.plain("1 000"), 0, 2);
            TestRows.lone(row, 0, 5).number(0, 2);
        }
        row.number(1, 2).number(1, 4).plain("00 00  0 0");
        TestRows.lone(row, 'k', 8);
        TestRows.lone(row, TestRows.command(1, 0), 10);
        TestRows.two(row, 1, 2, 10);
        TestRows.two(row, 113, 16, 7);
        Bits one = row.copy();
        TestRows.raw(row, "raw").plain("0 11 0 00").toWholeByte().plain("11");
        BrotliWords x = new BrotliWords();
        TestRows.opened(x, "two KINDS", row, "kraw");
        Check.due("map(0, 127)", x.map(0, 127), 0);
        Check.due("map(0, 128)", x.map(0, 128), BAD);
        Check.due("map(1, 7)", x.map(1, 7), 0);
        Check.due("map(1, 8)", x.map(1, 8), BAD);
        Check.due("the second KIND of commands", x.length(1, 1, 2), 1);
        Check.due("no third one", x.length(1, 2, 2), BAD);
        Check.due("the last distance", x.length(2, 0, 113), 1);
        Check.due("none behind it", x.length(2, 0, 114), BAD);
        // Behind it one with a KIND each.
        TestRows.codes(TestRows.lastHead(one, 1), TestRows.command(1, 0), 0);
        TestRows.opened(x, "then one KIND", one, "ka");
        Check.due("map(0, 64)", x.map(0, 64), BAD);
        Check.due("map(1, 4)", x.map(1, 4), BAD);
        Check.due("one KIND of commands", x.length(1, 1, 2), BAD);
        Check.due("64 distances", x.length(2, 0, 64), BAD);
        Check.due("the last of them", x.length(2, 0, 63), 0);
    }

    /** A lone sign has LENGTH 0, whatever the same sign had in the PARTS before. */
    private static void loneSignsBehindOthers() {
        for (int many = 1; many <= 3; many++) {
            Bits row = TestRows.start();
            StringBuilder due = new StringBuilder();
            for (int k = 0; k < many; k++) {
                TestRows.head(row, 1);
                TestRows.two(row, 'a', 'b', 8);
                TestRows.two(row, TestRows.command(1, 0), 703, 10);
                TestRows.two(row, 0, 1, 6).plain("0 0");
                due.append('a');
            }
            TestRows.codes(TestRows.lastHead(row, 1), TestRows.command(1, 0), 0);
            BrotliWords x = new BrotliWords();
            TestRows.opened(x, "a lone sign behind " + many, row, due + "a");
            Check.due("the literal", x.length(0, 0, 'a'), 0);
            Check.due("one of the PARTS before", x.length(0, 0, 'b'), 0);
            Check.due("the command", x.length(1, 0, TestRows.command(1, 0)), 0);
            Check.due("one of the PARTS before", x.length(1, 0, 703), 0);
            Check.due("the distance", x.length(2, 0, 0), 0);
            Check.due("one of the PARTS before", x.length(2, 0, 1), 0);
        }
    }

    private static void otherCallsLeaveWhatIsSeen() {
        BrotliWords x = oneByte();
        Check.feedAll(x, "otherother");
        x.pack(1);
        x.pass();
        x.clear();
        x.wipe();
        x.bits(7, 32);
        x.word();
        Check.due("read()", x.read() > 0 ? 1 : 0, 1);
        Check.due("part(0, 9)", x.part(0, 9), 1);
        Check.due("count(3)", x.count(3), 1);
        Check.due("length()", x.length(0, 0, 'a'), 1);
        Check.due("map()", x.map(1, 3), 0);
        Check.due("ring(0)", x.ring(0), 4);
        x.open();
        Check.due("read() of the next one", x.read(), 0);
        Check.due("count(3) of the next one", x.count(3), 0);
        Check.due("part() of the next one", x.part(0, 9), BAD);
        Check.due("length() of the next one", x.length(0, 0, 'a'), BAD);
        Check.due("map() of the next one", x.map(1, 3), BAD);
        Check.due("the commands of pack() stay", x.count(4), 1);
    }

    private static void countTakes0To4() {
        BrotliWords x = oneByte();
        for (int what : new int[] {-1, 5, 6, MIN, MAX}) {
            Check.due("count(" + what + ")", x.count(what), BAD);
        }
        Check.addWord(x, "word");
        Check.addWord(x, "words");
        Check.feedAll(x, "abc");
        int[] due = {2, 3, 1, 1, 0};
        for (int what = 0; what < 5; what++) {
            Check.due("count(" + what + ")", x.count(what), due[what]);
        }
        x.bits(0, 1);
        Check.due("count(1) with a byte that was begun", x.count(1), 4);
        x.pack(1);
        Check.due("count(1) behind pack()", x.count(1), 0);
        Check.due("count(4)", x.count(4), 1);
        Check.due("count(3) stays", x.count(3), 1);
    }
}
