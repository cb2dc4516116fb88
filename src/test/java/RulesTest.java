/** Promises 12 and 15 to 19: each RULE by hand, with the bits that were read and what was seen by then. */
public final class RulesTest {
    /** Bits up to the CODES of a lone PART, and bits of TestRows.codes(). */
    private static final int HEAD = 50, CODES = 36;

    public static void main(String[] args) {
        tooEarly();
        digestAndSpan();
        passedOver();
        sizes();
        wholeBytes();
        howMany();
        tooLong();
        distances();
        words();
        shortCodes();
        marksOfCodes();
        lengthsOfCodes();
        maps();
        left();
        keptHead();
        manyParts();
        Check.finish();
    }

    private static void tooEarly() {
        BrotliWords y = new BrotliWords();
        Check.addWord(y, "early");
        Check.feedAll(y, "early, too early; Early and earl, early too, in all ways");
        int size = y.pack(2);
        byte[] whole = new byte[size];
        for (int i = 0; i < size; i++) {
            whole[i] = (byte) y.out(i);
        }
        for (int n = 0; n < size; n++) {
            BrotliWords x = new BrotliWords();
            Check.addWord(x, "early");
            Check.feedAll(x, java.util.Arrays.copyOf(whole, n));
            Check.due("first " + n + " bytes: open()", x.open(), -11);
            Check.due("first " + n + " bytes: read()", x.read(), 8 * n);
            Check.due("first " + n + " bytes: OUT", x.count(2), 0);
        }
        // All is read, whatever was asked for behind it.
        TestRows.opened("raw bytes are missing", TestRows.start().plain("0 00").number(9, 16).plain("1").text("abc"), -11, 64);
        BrotliWords x = TestRows.opened("bytes to pass over are missing",
            TestRows.start().plain("0 11 0").number(1, 2).number(200, 8).text("abc"), -11, 56);
        Check.due("its size", x.part(0, 1), 201);
    }

    private static void digestAndSpan() {
        TestRows.opened("digest", new Bits().number(40292, 16), -12, 16);
        TestRows.opened("digest of a byte", new Bits().number(1, 8), -11, 8);
        Bits row = new Bits().number(40293, 16);
        TestRows.opened("span", row.plain("1 000 100"), -13, 23);
        BrotliWords x = new BrotliWords();
        Check.addWord(x, "word");
        TestRows.opened(x, "digest of other words", TestRows.start().plain("11"), -12, 16);
        for (int w = 2; w <= 8; w++) {
            int told = w % 8;
            Bits good = new Bits().number(40293, 16).plain("1 000").number(told, 3).plain("11").toWholeByte();
            TestRows.opened("span " + told, good, 0, 32);
        }
        // RANGE of SPAN 10 is 1,008: one more means a word.
        for (int back = 1008; back <= 1009; back++) {
            Bits far = new Bits().number(40293, 16).plain("1 000").number(2, 3);
            far.plain("0 00").number(1099, 16).plain("1").text("x".repeat(1100));
            TestRows.lastHead(far, 4);
            // Sign 31 has 8 bits: from 765 on.
            TestRows.codes(far, 2 * 64 + 2, 31);
            far.number(back - 765, 8);
            BrotliWords y = new BrotliWords();
            Check.feedAll(y, far.bytes());
            Check.due("distance " + back, y.open(), back == 1008 ? 1104 : -20);
            Check.due("ring behind " + back, y.ring(0), back == 1008 ? 1008 : 4);
        }
    }

    private static void passedOver() {
        BrotliWords x = TestRows.opened("last and passed over", TestRows.start().plain("1 0 11"), -14, 21);
        Check.due("no part", x.count(3), 0);
        x = TestRows.opened("a bit 1", TestRows.start().plain("0 11 1"), -14, 21);
        Check.due("a part", x.count(3), 1);
        Check.due("its sort", x.part(0, 0), 1);
        Check.due("its size", x.part(0, 1), 0);
        x = TestRows.opened("none passed over", TestRows.start().plain("0 11 0 00").toWholeByte().plain("11").toWholeByte(), 0, 32);
        Check.due("parts", x.count(3), 2);
        Check.due("its size", x.part(0, 1), 0);
        Check.due("the second one", x.part(1, 0), 0);
        x = TestRows.opened("one byte", TestRows.start().plain("0 11 0").number(1, 2).number(0, 8).text("!").plain("11").toWholeByte(), 0, 48);
        Check.due("its size", x.part(0, 1), 1);
        Bits row = TestRows.start().plain("0 11 0").number(2, 2).number(255, 16);
        x = TestRows.opened("two bytes, the last one 0", row.toWholeByte(), -15, 39);
        Check.due("no size", x.part(0, 1), 0);
        row = TestRows.start().plain("0 11 0").number(3, 2).number(65535, 24);
        TestRows.opened("three bytes, the last one 0", row.toWholeByte(), -15, 47);
        row = TestRows.start().plain("0 11 0").number(2, 2).number(256, 16).text("x".repeat(257)).plain("11");
        x = TestRows.opened("257 bytes", row.toWholeByte(), 0, 8 * 263);
        Check.due("its size", x.part(0, 1), 257);
        row = TestRows.start().plain("0 11 0").number(1, 2).number(0, 8).plain("1");
        x = TestRows.opened("a bit before the whole byte", row.toWholeByte(), -16, 32);
        Check.due("its size was read", x.part(0, 1), 1);
        row = TestRows.start().plain("0 11 0").number(3, 2).number(0xffffff, 24).toWholeByte();
        x = TestRows.opened("16 million bytes", row, -11, 48);
        Check.due("its size", x.part(0, 1), 0x1000000);
    }

    private static void sizes() {
        TestRows.opened("five nibbles, the last one 0", TestRows.start().plain("0").number(1, 2).number(0xffff, 20).toWholeByte(), -15, 40);
        TestRows.opened("six nibbles, the last one 0", TestRows.start().plain("0").number(2, 2).number(0xfffff, 24).toWholeByte(), -15, 44);
        TestRows.opened("five nibbles, too many bytes", TestRows.start().plain("0").number(1, 2).number(0x10000, 20).toWholeByte(), -27, 40);
        TestRows.opened("six nibbles", TestRows.start().plain("0").number(2, 2).number(0x100000, 24).toWholeByte(), -27, 44);
        BrotliWords x = TestRows.opened("3,001 bytes", TestRows.start().plain("0").number(0, 2).number(3000, 16).plain("1"), -27, 36);
        Check.due("no part", x.count(3), 0);
        x = TestRows.opened("3,000 bytes", TestRows.start().plain("0").number(0, 2).number(2999, 16).plain("1").toWholeByte(), -11, 40);
        Check.due("a part", x.count(3), 1);
        Check.due("raw", x.part(0, 0), 2);
        Check.due("its size", x.part(0, 1), 3000);
        Bits row = TestRows.start().plain("0").number(0, 2).number(9, 16).plain("1").text("0123456789");
        x = TestRows.opened("2,991 more", row.plain("1 0").number(0, 2).number(2990, 16).toWholeByte(), -27, 40 + 80 + 20);
        Check.due("one part", x.count(3), 1);
        row = TestRows.start().plain("0").number(0, 2).number(9, 16).plain("1").text("0123456789");
        x = TestRows.opened("2,990 more", row.plain("1 0").number(0, 2).number(2989, 16).toWholeByte(), -11, 40 + 80 + 24);
        Check.due("two parts", x.count(3), 2);
        Check.due("coded", x.part(1, 0), 3);
        Check.due("its size", x.part(1, 1), 2990);
        x = TestRows.opened("the bit RAW is missing", TestRows.start().plain("0").number(0, 2).number(0, 16).number(0, 4), -11, 40);
        Check.due("the bit RAW was there", x.count(3), 1);
    }

    private static void wholeBytes() {
        TestRows.opened("a bit behind the end", TestRows.start().plain("11 00001"), -16, 24);
        TestRows.opened("raw", TestRows.start().plain("0 00").number(0, 16).plain("1 100"), -16, 40);
        TestRows.opened("passed over, then a part breaks off", TestRows.start().plain("0 11 0 00 0").plain("1"), -11, 32);
        TestRows.opened("passed over, not a 0", TestRows.start().plain("0 11 0 00 1"), -16, 24);
    }

    private static void howMany() {
        Bits head = TestRows.start().plain("1 0 00").number(0, 16);
        BrotliWords x = TestRows.opened("13 kinds", head.copy().plain("1").number(3, 3).number(4, 3), -17, 44);
        Check.due("not told", x.part(0, 2), 0);
        TestRows.opened("17 kinds", head.copy().plain("1").number(4, 3).number(0, 4), -17, 45);
        TestRows.opened("129 kinds", head.copy().plain("1").number(7, 3).number(0, 7).toWholeByte(), -17, 48);
        x = TestRows.opened("12 kinds", head.copy().plain("1").number(3, 3).number(3, 3).toWholeByte(), -11, 48);
        Check.due("told", x.part(0, 2), 12);
        x = TestRows.opened("two kinds", head.copy().plain("0 1").number(0, 3).toWholeByte(), -11, 48);
        Check.due("literals", x.part(0, 2), 1);
        Check.due("commands", x.part(0, 3), 2);
        Check.due("distances", x.part(0, 4), 0);
        Bits trees = head.copy().plain("0 0 0").number(3, 2).number(15, 4).number(1, 2);
        x = TestRows.opened("13 trees", trees.copy().plain("1").number(3, 3).number(4, 3), -17, 55);
        Check.due("postfix", x.part(0, 7), 3);
        Check.due("direct", x.part(0, 8), 120);
        Check.due("no trees", x.part(0, 5), 0);
        x = TestRows.opened("13 trees of distances", trees.copy().plain("0 1").number(3, 3).number(4, 3), -17, 56);
        Check.due("trees of literals", x.part(0, 5), 1);
        Check.due("trees of distances", x.part(0, 6), 0);
    }

    private static void tooLong() {
        // Command 2 * 64 + 8 * 3: insert 3, copy 2.
        Bits row = TestRows.codes(TestRows.lastHead(TestRows.start(), 2), 2 * 64 + 8 * 3, 0);
        BrotliWords x = TestRows.opened("three literals of two", row.toWholeByte(), -18, HEAD + CODES);
        Check.due("a command", x.part(0, 9), 1);
        row = TestRows.codes(TestRows.lastHead(TestRows.start(), 3), 2 * 64 + 8 * 3, 0);
        x = TestRows.opened("three of three", row.toWholeByte(), 3, 88);
        Check.due("a command", x.part(0, 9), 1);
        Check.due("no copy", x.part(0, 10), 0);
        Check.due("out", x.out(2), 'a');
        // Insert 1, copy 4 at distance 1 by sign 16 and a bit 0.
        row = TestRows.codes(TestRows.lastHead(TestRows.start(), 4), 2 * 64 + 8 + 2, 16).plain("0");
        x = TestRows.opened("a copy of four where three are left", row.toWholeByte(), -18, HEAD + CODES + 1);
        Check.due("ring", x.ring(0), 4);
        Check.due("commands", x.part(0, 9), 1);
        Check.due("copies", x.part(0, 10), 0);
        row = TestRows.codes(TestRows.lastHead(TestRows.start(), 5), 2 * 64 + 8 + 2, 16).plain("0");
        x = TestRows.opened("a copy of four", row.toWholeByte(), 5, 88);
        Check.due("ring", x.ring(0), 1);
        Check.due("ring", x.ring(3), 15);
        Check.due("copies", x.part(0, 10), 1);
        // The bits of INSERT and COPY are read before they are judged: insert code 6, copy code 8 (cell 3).
        row = TestRows.codes(TestRows.lastHead(TestRows.start(), 2), 3 * 64 + 8 * 6, 0).plain("1 1");
        TestRows.opened("bits of the command", row.toWholeByte(), -18, HEAD + CODES + 2);
    }

    private static void distances() {
        // 'aaaa': one literal, a copy of 2 at distance 1 (sign 16, bit 0), then sign 4: the last less 1.
        Bits row = TestRows.lastHead(TestRows.start(), 9);
        TestRows.lone(row, 'a', 8);
        TestRows.lone(row, 2 * 64 + 8, 10);
        TestRows.two(row, 4, 16, 6);
        row.plain("1 0").plain("0");
        BrotliWords x = TestRows.opened("distance 0", row.toWholeByte(), -19, HEAD + CODES + 9);
        Check.due("commands", x.part(0, 9), 2);
        Check.due("copies", x.part(0, 10), 1);
        Check.due("ring", x.ring(0), 1);
        Check.due("ring", x.ring(1), 4);
        // Copy 2 has no word, but a DISTANCE that is not above 0 comes first: sign 6, the last less 2.
        row = TestRows.lastHead(TestRows.start(), 9);
        TestRows.lone(row, 'a', 8);
        TestRows.lone(row, 2 * 64 + 8, 10);
        TestRows.two(row, 6, 16, 6);
        row.plain("1 0").plain("0");
        TestRows.opened("distance - 1", row.toWholeByte(), -19, HEAD + CODES + 9);
    }

    private static Bits wordRow(BrotliWords x, int size, int copy, int sign, int more, int bits) {
        Bits row = TestRows.lastHead(TestRows.start(x), size);
        return TestRows.codes(row, 2 * 64 + copy - 2, sign).number(more, bits);
    }

    private static BrotliWords threeWords() {
        BrotliWords x = new BrotliWords();
        Check.addWord(x, "zero");
        Check.addWord(x, "ones");
        Check.addWord(x, "twos");
        return x;
    }

    private static void words() {
        BrotliWords x = TestRows.opened("no words at all", wordRow(new BrotliWords(), 9, 4, 16, 0, 1).toWholeByte(), -20, HEAD + CODES + 1);
        Check.due("no word", x.part(0, 11), 0);
        // DISTANCE 1 at OUT of nothing: y = 0. Three words have 2 BITS.
        x = threeWords();
        TestRows.opened(x, "word 0", wordRow(x, 4, 4, 16, 0, 1).toWholeByte(), 4, 88);
        Check.due("text", Check.outOf(x).equals("zero") ? 1 : 0, 1);
        Check.due("words", x.part(0, 11), 1);
        Check.due("copies", x.part(0, 10), 0);
        Check.due("ring", x.ring(0), 4);
        // Sign 17: distances 3, 4; the fourth one is y = 3, which is no number.
        TestRows.opened(x, "word 3 of three", wordRow(x, 4, 4, 17, 1, 1).toWholeByte(), -20, HEAD + CODES + 1);
        TestRows.opened(x, "word 2", wordRow(x, 4, 4, 17, 0, 1).toWholeByte(), 4, 88);
        TestRows.opened(x, "no word of five", wordRow(x, 5, 5, 17, 0, 1).toWholeByte(), -20, HEAD + CODES + 1);
        TestRows.opened(x, "no word of three", wordRow(x, 5, 3, 17, 0, 1).toWholeByte(), -20, HEAD + CODES + 1);
        // y = 4 * 24 = 96 is DISTANCE 97: sign 26 has n = 6, from 125 on; sign 25: n = 5, 93 .. 124.
        TestRows.opened(x, "change 24", wordRow(x, 4, 4, 25, 97 - 93, 5).toWholeByte(), -21, HEAD + CODES + 5);
        TestRows.opened(x, "change 24 of no number", wordRow(x, 4, 4, 25, 100 - 93, 5).toWholeByte(), -20, HEAD + CODES + 5);
        TestRows.opened(x, "change 23", wordRow(x, 4, 4, 25, 93 - 93, 5).toWholeByte(), 4, 96);
        Check.due("text", Check.outOf(x).equals("ze, ") ? 1 : 0, 1);
        TestRows.opened(x, "a changed word that is too long", wordRow(x, 3, 4, 25, 0, 5).toWholeByte(), -18, HEAD + CODES + 5);
        // CHANGE 3, without the first: three bytes are enough for it. y = 12: sign 20, n = 3: 13 .. 20.
        TestRows.opened(x, "a changed word that fits", wordRow(x, 3, 4, 20, 0, 3).toWholeByte(), 3, 96);
        Check.due("text", Check.outOf(x).equals("ero") ? 1 : 0, 1);
        // In cell 0 the last DISTANCE, 4, is meant: y = 3 is no number; with five words it is one.
        Bits row = TestRows.lastHead(TestRows.start(x), 4);
        TestRows.opened(x, "cell 0", TestRows.codes(row, 2, 0).toWholeByte(), -20, HEAD + CODES);
        Check.addWord(x, "last");
        row = TestRows.lastHead(TestRows.start(x), 4);
        TestRows.opened(x, "cell 0 with a fourth word", TestRows.codes(row, 2, 0).toWholeByte(), 4, 88);
        Check.due("text", Check.outOf(x).equals("last") ? 1 : 0, 1);
    }

    private static void shortCodes() {
        Bits row = TestRows.lastHead(TestRows.start(), 3);
        TestRows.lone(row, 'a', 8);
        TestRows.opened("command 704", TestRows.lone(row, 704, 10).toWholeByte(), -22, 76);
        row = TestRows.lastHead(TestRows.start(), 3);
        TestRows.opened("a sign twice", row.number(1, 2).number(3, 2).number(7, 8).number(8, 8).number(7, 8).number(9, 8), -22, 78);
        row = TestRows.lastHead(TestRows.start(), 3);
        TestRows.lone(row, 'a', 8);
        TestRows.lone(row, 703, 10);
        BrotliWords x = TestRows.opened("distance 63", TestRows.lone(row, 63, 6).toWholeByte(), -11, 88);
        Check.due("a lone one has none", x.length(0, 0, 'a'), 0);
        Check.due("a lone one has none", x.length(1, 0, 703), 0);
        Check.due("no such sign", x.length(1, 0, 704), -1);
        Check.due("no such sign", x.length(2, 0, 64), -1);
        Check.due("no such sign", x.length(0, 0, 256), -1);
        Check.due("no such sign", x.length(0, 0, -1), -1);
        Check.due("no such tree", x.length(0, 1, 0), -1);
        Check.due("no such tree", x.length(0, -1, 0), -1);
        Check.due("no such sort", x.length(3, 0, 0), -1);
        Check.due("no such sort", x.length(-1, 0, 0), -1);
        int[][] due = {{1, 1}, {1, 2, 2}, {2, 2, 2, 2}, {1, 2, 3, 3}};
        for (int k = 0; k < 4; k++) {
            int many = due[k].length;
            row = TestRows.lastHead(TestRows.start(), 3).number(1, 2).number(many - 1, 2);
            for (int i = 0; i < many; i++) {
                row.number(200 - 50 * i, 8);
            }
            row.plain(many < 4 ? "" : k == 3 ? "1" : "0");
            TestRows.lone(row, 2 * 64 + 8 * 3, 10);
            TestRows.lone(row, 0, 6);
            // The last sign told is the least one: of like LENGTHS it comes first.
            row.plain(k == 0 ? "0 1 1" : k == 1 ? "10 0 11" : k == 2 ? "00 11 01" : "110 0 111");
            x = TestRows.opened("code " + k, row.toWholeByte(), 3, (row.size() + 7) / 8 * 8);
            for (int i = 0; i < many; i++) {
                Check.due("length " + i, x.length(0, 0, 200 - 50 * i), due[k][i]);
            }
            int[][] out = {{150, 200, 200}, {100, 200, 150}, {50, 200, 100}, {50, 200, 100}};
            for (int i = 0; i < 3; i++) {
                Check.due("code " + k + ": out(" + i + ")", x.out(i), out[k][i]);
            }
        }
    }

    private static Bits atLength(int h) {
        return TestRows.lastHead(TestRows.start(), 3).number(h, 2);
    }

    private static void marksOfCodes() {
        // Marks 1, 2: LENGTH 1 each is 32; a third one is not told.
        TestRows.opened("no mark at all", atLength(0).plain("00".repeat(18)).toWholeByte(), -23, 50 + 2 + 36);
        TestRows.opened("no mark at all, h 3", atLength(3).plain("00".repeat(15)).toWholeByte(), -23, 50 + 2 + 30);
        TestRows.opened("no mark at all, h 2", atLength(2).plain("00".repeat(16)).toWholeByte(), -23, 50 + 2 + 32);
        TestRows.opened("a sum above 32", atLength(0).plain("1110 110 1110").toWholeByte(), -23, 50 + 2 + 11);
        TestRows.opened("two marks, a sum below 32", atLength(0).plain("1110 110" + "00".repeat(16)).toWholeByte(), -23, 50 + 2 + 39);
        TestRows.opened("a lone mark 15", atLength(0).plain("00".repeat(17) + "01").toWholeByte(), -24, 50 + 2 + 36);
        BrotliWords x = TestRows.opened("a lone mark 8: 256 signs",
            atLength(0).plain("00".repeat(10) + "1111" + "00".repeat(7)).toWholeByte(), -11, 96);
        Check.due("not all codes were read", x.length(0, 0, 0), -1);
    }

    private static void lengthsOfCodes() {
        // Marks 1 (0) and 2 (10), 3 (11): LENGTHS 1, 2, 2 in order 1, 2, 3.
        Bits marks = atLength(0).plain("1110 110 110");
        TestRows.opened("lengths 1, 1: no more is read",
            TestRows.lone(marks.copy().plain("0 0"), 704, 10).toWholeByte(), -22, 62 + 2 + 14);
        TestRows.opened("lengths 1, 2, 1", marks.copy().plain("0 10 0").toWholeByte(), -24, 62 + 4);
        // r of 17s: 3, 8 + 3 = 11, 75, 587: the fourth one is beyond 256 signs.
        TestRows.opened("marks 17 alone", atLength(3).plain("00 00 00 1110" + "00".repeat(11)).plain("000".repeat(20)).toWholeByte(), -24,
            HEAD + 2 + 10 + 22 + 4 * 3);
        // Mark 16 alone: 8 is the LENGTH before; 3, 3 + .. of them; 256 are 32,768.
        Bits sixteens = atLength(3).plain("00 00 00 00 00 1110" + "00".repeat(9));
        // r: 3, then 4 (3 - 2) + 3 = 7, 23, 87: 343 would be too many.
        TestRows.opened("marks 16 alone", sixteens.copy().plain("00 00 00 00 00").toWholeByte(), -24,
            sixteens.size() + 10);
        // 5 = 3 + 2; 17 = 4 (5 - 2) + 3 + 2; 65 = 4 (17 - 2) + 3 + 2; 256 = 4 (65 - 2) + 3 + 1.
        Bits whole = sixteens.copy().number(2, 2).number(2, 2).number(2, 2).number(1, 2);
        TestRows.lone(whole, 2 * 64 + 8 * 3, 10);
        TestRows.lone(whole, 0, 6);
        for (char c : "xyz".toCharArray()) {
            for (int k = 7; k >= 0; k--) {
                whole.number(c >> k & 1, 1);
            }
        }
        BrotliWords x = TestRows.opened("256 signs of 8 bits by 16s", whole.toWholeByte(), 3, (whole.size() + 7) / 8 * 8);
        Check.due("text", Check.outOf(x).equals("xyz") ? 1 : 0, 1);
        Check.due("length", x.length(0, 0, 255), 8);
    }

    private static void maps() {
        Bits head = TestRows.start().plain("1 0 00").number(2, 16).plain("0 0 0  00 0000  00");
        // Two TREES of literals, RUNS 6: signs 0 .. 7; sign 6 is a run of 64 .. 127.
        Bits row = head.copy().plain("1 000").plain("1").number(5, 4);
        TestRows.two(row, 6, 7, 3);
        TestRows.opened("a run of 65", row.copy().plain("0").number(1, 6).toWholeByte(), -25, row.size() + 7);
        TestRows.opened("a run of 64 behind one", row.copy().plain("1 0").number(0, 6).toWholeByte(), -25, row.size() + 8);
        Bits good = row.copy().plain("0").number(0, 6).plain("0").plain("0");
        TestRows.lone(good, 'a', 8);
        TestRows.lone(good, 'b', 8);
        TestRows.lone(good, 2 * 64 + 8 * 3, 10);
        TestRows.lone(good, 0, 6);
        BrotliWords x = TestRows.opened("a run of 64", good.toWholeByte(), 3, (good.size() + 7) / 8 * 8);
        Check.due("text", Check.outOf(x).equals("aaa") ? 1 : 0, 1);
        Check.due("map(0, 63)", x.map(0, 63), 0);
        Check.due("map(0, 64)", x.map(0, 64), -1);
        Check.due("map(0, -1)", x.map(0, -1), -1);
        Check.due("map(1, 3)", x.map(1, 3), 0);
        Check.due("map(1, 4)", x.map(1, 4), -1);
        Check.due("map(2, 0)", x.map(2, 0), -1);
        Check.due("map(-1, 0)", x.map(-1, 0), -1);
        Check.due("trees", x.part(0, 5), 2);
        movedToFront(head);
    }

    /** Three TREES without RUNS: 1 2 2 0 .. moved to the front mean 1 2 0 0 .. */
    private static void movedToFront(Bits head) {
        for (int moved = 0; moved < 2; moved++) {
            Bits row = head.copy().plain("1 100 0").plain("0");
            row.number(1, 2).number(2, 2).number(0, 2).number(1, 2).number(2, 2);
            row.plain("10 11 11").plain("0".repeat(61)).number(moved, 1).plain("0");
            TestRows.lone(row, 0, 8);
            TestRows.lone(row, 1, 8);
            TestRows.lone(row, 2, 8);
            TestRows.lone(row, 2 * 64 + 8 * 3, 10);
            TestRows.lone(row, 0, 6);
            BrotliWords x = TestRows.opened("moved " + moved, row.toWholeByte(), 3, (row.size() + 7) / 8 * 8);
            int[] due = moved == 0 ? new int[] {1, 2, 2, 0, 0} : new int[] {1, 2, 0, 0, 0};
            for (int i = 0; i < 5; i++) {
                Check.due("moved " + moved + ": map(0, " + i + ")", x.map(0, i), due[i]);
            }
            // MODE 0: behind nothing CONTEXT 0, then the byte before.
            Check.due("out(0)", x.out(0), 1);
            Check.due("out(1)", x.out(1), 2);
            Check.due("out(2)", x.out(2), moved == 0 ? 2 : 0);
        }
    }

    private static void left() {
        TestRows.opened("a byte more", TestRows.start().plain("11").toWholeByte().number(0, 8), -26, 24);
        TestRows.opened("a byte more, and bits that are not 0", TestRows.start().plain("11 1").toWholeByte().number(0, 8), -16, 24);
    }

    /** map() and length() tell the latest PART whose CODES were all read. */
    private static void keptHead() {
        Bits row = TestRows.head(TestRows.start(), 3);
        TestRows.two(row, 'a', 'b', 8);
        TestRows.lone(row, 2 * 64 + 8 * 3, 10);
        TestRows.lone(row, 0, 6).plain("0 1 0");
        TestRows.lastHead(row, 1);
        TestRows.two(row, 'c', 'd', 8);
        BrotliWords x = TestRows.opened("a head that breaks off", row.number(1, 2).toWholeByte(), -11, (row.size() + 7) / 8 * 8);
        Check.due("parts", x.count(3), 2);
        Check.due("length of a", x.length(0, 0, 'a'), 1);
        Check.due("length of c", x.length(0, 0, 'c'), 0);
        Check.due("map", x.map(0, 63), 0);
        Check.feedAll(x, TestRows.start().plain("11").toWholeByte().bytes());
        Check.due("another open()", x.open(), 0);
        Check.due("no part of that", x.length(0, 0, 'a'), -1);
        Check.due("no part of that", x.map(0, 0), -1);
    }

    private static void manyParts() {
        Bits row = TestRows.start().plain("0 11 0 00").toWholeByte();
        for (int i = 0; i < 70; i++) {
            row.plain("0 11 0 00").toWholeByte();
        }
        BrotliWords x = TestRows.opened("71 parts and an empty one", row.plain("11").toWholeByte(), 0, row.size());
        Check.due("count(3)", x.count(3), 72);
        Check.due("part(59, 0)", x.part(59, 0), 1);
        Check.due("part(60, 0)", x.part(60, 0), -1);
        Check.due("part(0, 12)", x.part(0, 12), -1);
        Check.due("part(0, -1)", x.part(0, -1), -1);
        Check.due("part(-1, 0)", x.part(-1, 0), -1);
    }
}
