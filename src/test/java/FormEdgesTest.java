/** Promise 12 and section 2 of the document, up to the COMMANDS: each boundary of THE FORM, one by one. */
public final class FormEdgesTest {
    public static void main(String[] args) {
        nothingAndTooShort();
        digestOfOneBit();
        eachSpan();
        rangeOfEachSpan();
        lastThatIsEmpty();
        lastThatIsPassedOver();
        passedOverOfEachSize();
        passedOverWhoseLastByteIs0();
        passedOverDoesNotCount();
        wholeByteWithoutBits();
        eachBitToAWholeByte();
        lengthOf1AndOf3000();
        lengthWithMoreNibbles();
        lengthBehindOtherParts();
        rawIsNotLast();
        howManyOfEachPlace();
        kindsHaveTheirCodes();
        directAndPostfix();
        modesOfEachKind();
        behindTheLastPart();
        Check.finish();
    }

    private static void nothingAndTooShort() {
        TestRows.opened("nothing", new Bits(), -11, 0);
        TestRows.opened("a byte", new Bits().number(40293 & 255, 8), -11, 8);
        TestRows.opened("DIGEST alone", new Bits().number(40293, 16), -11, 16);
        TestRows.opened("the least row", TestRows.start().plain("11").toWholeByte(), 0, 24);
    }

    private static void digestOfOneBit() {
        for (int k = 0; k < 16; k++) {
            Bits row = new Bits().number(40293 ^ 1 << k, 16).plain("0 11").toWholeByte();
            TestRows.opened("DIGEST, bit " + k, row, -12, 16);
        }
        BrotliWords x = new BrotliWords();
        Check.addWord(x, "word");
        TestRows.opened(x, "DIGEST without the word", TestRows.start().plain("11").toWholeByte(), -12, 16);
        TestRows.opened(x, "DIGEST with the word", TestRows.start(x).plain("11").toWholeByte(), 0, 24);
        x.clear();
        TestRows.opened(x, "DIGEST behind clear()", TestRows.start().plain("11").toWholeByte(), 0, 24);
    }

    private static Bits span(int span) {
        Bits row = new Bits().number(40293, 16);
        if (span == 16) {
            return row.plain("0");
        }
        return span > 17 ? row.plain("1").number(span - 17, 3) : row.plain("1 000").number(span == 17 ? 0 : span - 8, 3);
    }

    private static void eachSpan() {
        for (int span = 10; span <= 24; span++) {
            Bits row = span(span).plain("11").toWholeByte();
            TestRows.opened("SPAN " + span, row, 0, row.size());
        }
        TestRows.opened("SPAN that is none", new Bits().number(40293, 16).plain("1 000 100 11").toWholeByte(), -13, 23);
    }

    /** MOST is the lesser of RANGE and the bytes of OUT: just so far a DISTANCE is a COPY. */
    private static void rangeOfEachSpan() {
        for (int span = 10; span <= 24; span++) {
            int most = Math.min((1 << span) - 16, 2990);
            for (int distance = most - 1; distance <= most + 1; distance++) {
                Bits row = TestRows.manyZ(span(span), 2990);
                TestRows.lastHead(row, 4);
                TestRows.codes(row, TestRows.command(0, 2), TestRows.farSign(distance));
                row.number(distance + 3, TestRows.farBits(distance));
                String name = "SPAN " + span + ", DISTANCE " + distance;
                if (distance <= most) {
                    row.toWholeByte();
                    BrotliWords x = TestRows.opened(name, row, 2994, row.size());
                    Check.due(name + ": ring(0)", x.ring(0), distance);
                } else {
                    // Without WORDS there is none.
                    BrotliWords x = TestRows.opened(name, row, -20, row.size());
                    Check.due(name + ": ring(0)", x.ring(0), 1);
                }
            }
        }
    }

    private static void lastThatIsEmpty() {
        BrotliWords x = TestRows.opened("EMPTY", TestRows.start().plain("11").toWholeByte(), 0, 24);
        Check.due("its sort", x.part(0, 0), 0);
        Check.due("its LENGTH", x.part(0, 1), 0);
        Check.due("no PART behind it", x.part(1, 0), -1);
        x = TestRows.opened("EMPTY behind a RAW one", TestRows.raw(TestRows.start(), "ab").plain("11").toWholeByte(), 2, 64);
        Check.due("two PARTS", x.count(3), 2);
        Check.due("EMPTY", x.part(1, 0), 0);
    }

    private static void lastThatIsPassedOver() {
        for (String rest : new String[] {"", "0", "1", "0 00"}) {
            Bits row = TestRows.start().plain("1 0 11").plain(rest).toWholeByte();
            BrotliWords x = TestRows.opened("LAST, PASSED OVER" + rest, row, -14, 21);
            Check.due("it is no PART", x.count(3), 0);
        }
        BrotliWords x = TestRows.opened("PASSED OVER with a bit 1", TestRows.start().plain("0 11 1").toWholeByte(), -14, 21);
        Check.due("it is a PART", x.part(0, 0), 1);
    }

    private static void passedOverOfEachSize() {
        int[][] sizes = {{0, 0}, {1, 1}, {1, 2}, {1, 255}, {1, 256}, {2, 257}, {2, 258}, {2, 2300}};
        for (int[] one : sizes) {
            Bits row = TestRows.start().plain("0 11 0").number(one[0], 2).number(one[1] - 1, 8 * one[0]);
            row.text("p".repeat(one[1])).plain("11").toWholeByte();
            String name = one[1] + " PASSED OVER by " + one[0];
            BrotliWords x = TestRows.opened(name, row, 0, row.size());
            Check.due(name + ": sort", x.part(0, 0), 1);
            Check.due(name + ": LENGTH", x.part(0, 1), one[1]);
            Check.due(name + ": PARTS", x.count(3), 2);
            if (one[1] > 0) {
                // One byte less is there: the row of bits ends within what is passed over.
                Bits less = TestRows.start().plain("0 11 0").number(one[0], 2).number(one[1] - 1, 8 * one[0]);
                less.text("p".repeat(one[1] - 1));
                x = TestRows.opened(name + ", one less", less, -11, less.size());
                Check.due(name + ", one less: LENGTH", x.part(0, 1), one[1]);
                Check.due(name + ", one less: PARTS", x.count(3), 1);
            }
        }
        for (long size : new long[] {65536, 65537, 16777216}) {
            int s = size > 65536 ? 3 : 2;
            Bits row = TestRows.start().plain("0 11 0").number(s, 2).number(size - 1, 8 * s).toWholeByte().text("some");
            BrotliWords x = TestRows.opened(size + " PASSED OVER", row, -11, row.size());
            Check.due(size + " PASSED OVER: LENGTH", x.part(0, 1), size);
        }
    }

    private static void passedOverWhoseLastByteIs0() {
        int[][] numbers = {{2, 0}, {2, 255}, {3, 0}, {3, 255}, {3, 65535}};
        for (int[] one : numbers) {
            Bits row = TestRows.start().plain("0 11 0").number(one[0], 2).number(one[1], 8 * one[0]);
            int read = row.size();
            String name = "number " + one[1] + " by " + one[0];
            BrotliWords x = TestRows.opened(name, row.text("p".repeat(300)), -15, read);
            Check.due(name + ": PARTS", x.count(3), 1);
        }
        // By one byte a 0 is a number like another; by none there is no number.
        Bits row = TestRows.start().plain("0 11 0").number(1, 2).number(0, 8).text("p").plain("11").toWholeByte();
        TestRows.opened("number 0 by 1", row, 0, row.size());
        // The lower bytes may be 0.
        row = TestRows.start().plain("0 11 0").number(3, 2).number(65536, 24).toWholeByte();
        TestRows.opened("number 65,536 by 3", row, -11, row.size());
    }

    /** What is PASSED OVER is not of OUT: 3,000 bytes may come behind it. */
    private static void passedOverDoesNotCount() {
        Bits row = TestRows.start().plain("0 11 0").number(1, 2).number(199, 8).text("p".repeat(200));
        TestRows.manyZ(row, 3000).plain("0 11 0").number(1, 2).number(199, 8).text("p".repeat(200)).plain("11");
        BrotliWords x = TestRows.opened("3,000 and 400", row.toWholeByte(), 3000, row.size());
        Check.due("PARTS", x.count(3), 5);
        Check.due("the first byte", x.out(0), 'z');
    }

    /** Where a byte is whole already no bit more is read. */
    private static void wholeByteWithoutBits() {
        // LAST, 2 bits, LENGTH and the bit RAW are 20 bits.
        Bits row = TestRows.shift(TestRows.start(), 4).plain("0 00").number(1, 16).plain("1");
        Check.due("a whole byte", row.size() % 8, 0);
        row.text("rw");
        TestRows.opened(new BrotliWords(), "RAW at a whole byte", row.plain("11"), "arw");
        row = TestRows.shift(TestRows.start(), 2).plain("0 11 0 00");
        Check.due("a whole byte", row.size() % 8, 0);
        TestRows.opened(new BrotliWords(), "PASSED OVER at a whole byte", row.plain("11"), "a");
        row = TestRows.shift(TestRows.start(), 6).plain("11");
        Check.due("a whole byte", row.size() % 8, 0);
        TestRows.opened(new BrotliWords(), "the end at a whole byte", row, "a");
    }

    private static void eachBitToAWholeByte() {
        for (int above = 1; above < 8; above++) {
            for (int bit = above; bit < 8; bit++) {
                int set = 1 << bit - above;
                String name = "bit " + bit + " behind " + above;
                Bits row = TestRows.shift(TestRows.start(), Math.floorMod(above - 4, 8)).plain("0 00").number(1, 16).plain("1");
                row.number(set, 8 - above);
                int read = row.size();
                Check.due(name + ": whole", read % 8, 0);
                BrotliWords x = TestRows.opened("RAW, " + name, row.text("rw"), -16, read);
                Check.due(name + ": it is a PART", x.part(1, 0), 2);
                row = TestRows.shift(TestRows.start(), Math.floorMod(above - 6, 8)).plain("0 11 0 00").number(set, 8 - above);
                x = TestRows.opened("PASSED OVER, " + name, row, -16, row.size());
                Check.due(name + ": it is a PART", x.part(1, 0), 1);
                row = TestRows.shift(TestRows.start(), Math.floorMod(above - 2, 8)).plain("11").number(set, 8 - above);
                x = TestRows.opened("the end, " + name, row, -16, row.size());
                Check.due(name + ": it is a PART", x.part(1, 0), 0);
            }
        }
    }

    private static void lengthOf1AndOf3000() {
        TestRows.opened(new BrotliWords(), "RAW of 1", TestRows.raw(TestRows.start(), "r").plain("11"), "r");
        Bits row = TestRows.codes(TestRows.lastHead(TestRows.start(), 1), TestRows.command(1, 0), 0);
        TestRows.opened(new BrotliWords(), "CODED of 1", row, "a");
        row = TestRows.lastHead(TestRows.start(), 3000);
        TestRows.codes(row, TestRows.command(21, 0), 0).number(3000 - 2114, 12);
        BrotliWords x = TestRows.opened(new BrotliWords(), "CODED of 3,000", row, "a".repeat(3000));
        Check.due("its LENGTH", x.part(0, 1), 3000);
        for (int size : new int[] {3001, 4096, 65536}) {
            row = TestRows.start().plain("1 0 00").number(size - 1, 16).toWholeByte();
            x = TestRows.opened("CODED of " + size, row, -27, 37);
            Check.due("no PART", x.count(3), 0);
            row = TestRows.start().plain("0 00").number(size - 1, 16).plain("1").toWholeByte();
            x = TestRows.opened("RAW of " + size, row, -27, 36);
            Check.due("no PART", x.count(3), 0);
        }
    }

    /** With five or six NIBBLES the last one is 0 (RULE 5) or there are too many bytes (RULE 17). */
    private static void lengthWithMoreNibbles() {
        long[][] numbers = {{5, 0, -15}, {5, 0xffff, -15}, {5, 0x10000, -27}, {5, 0xfffff, -27}, {6, 0, -15},
            {6, 0xfffff, -15}, {6, 0x100000, -27}, {6, 0xffffff, -27}};
        for (long[] one : numbers) {
            for (String last : new String[] {"1 0", "0"}) {
                Bits row = TestRows.start().plain(last).number(one[0] - 4, 2).number(one[1], 4 * (int) one[0]);
                int read = row.size();
                String name = one[1] + " in " + one[0] + " NIBBLES, LAST " + last;
                BrotliWords x = TestRows.opened(name, row.number(0, 8).toWholeByte(), (int) one[2], read);
                Check.due(name + ": PARTS", x.count(3), 0);
            }
        }
        // Of four the last one may be 0.
        TestRows.opened("four NIBBLES", TestRows.raw(TestRows.start(), "r").plain("11").toWholeByte(), 1, 56);
        // In 0s of six NIBBLES RULE 5 is the first, where RULE 17 would be broken as well.
        Bits row = TestRows.manyZ(TestRows.start(), 3000).plain("0").number(1, 2).number(5, 20);
        TestRows.opened("RULE 5 and RULE 17", row, -15, row.size());
    }

    private static void lengthBehindOtherParts() {
        for (int had : new int[] {1, 1500, 2999, 3000}) {
            String name = "behind " + had;
            Bits whole = had == 1 ? TestRows.raw(TestRows.start(), "z") : TestRows.manyZ(TestRows.start(), had);
            int left = 3000 - had;
            Bits row = whole.copy().plain("0 00").number(left, 16);
            BrotliWords x = TestRows.opened(name + " one too many", row, -27, row.size());
            Check.due(name + ": PARTS", x.count(3), had == 1 ? 1 : 2);
            row = whole.copy().plain("1 0 00").number(left, 16);
            TestRows.opened(name + " one too many, LAST", row, -27, row.size());
            if (left > 0) {
                row = TestRows.head(whole.copy(), left);
                int code = TestRows.codeOf(SlowOpen.INSERT, left);
                TestRows.codes(row, TestRows.command(code, 0), 0);
                row.number(left - SlowOpen.INSERT[code][0], SlowOpen.INSERT[code][1]).plain("11");
                TestRows.opened(new BrotliWords(), name + " just so many", row, "z".repeat(had) + "a".repeat(left));
            } else {
                TestRows.opened(new BrotliWords(), name + " none", whole.copy().plain("11"), "z".repeat(3000));
            }
        }
    }

    /** Of one that is LAST no bit RAW is read: the bit there is that of KINDS. */
    private static void rawIsNotLast() {
        Bits row = TestRows.start().plain("1 0 00").number(0, 16).plain("1").number(0, 3).toWholeByte();
        BrotliWords x = TestRows.opened("LAST and a bit 1", row, -11, 48);
        Check.due("it is CODED", x.part(0, 0), 3);
        Check.due("KINDS of literals", x.part(0, 2), 2);
        row = TestRows.start().plain("0 00").number(0, 16).plain("0").toWholeByte();
        x = TestRows.opened("not LAST and a bit 0", row, -11, 40);
        Check.due("it is CODED", x.part(0, 0), 3);
        Check.due("KINDS of literals", x.part(0, 2), 1);
    }

    /** HOW MANY from 1 to 256, as KINDS of each SORT and as TREES: 12 is the most. */
    private static void howManyOfEachPlace() {
        String[] ahead = {"", "0", "0 0", "0 0 0  00 0000  00", "0 0 0  00 0000  00  0"};
        int[] what = {2, 3, 4, 5, 6};
        for (int place = 0; place < 5; place++) {
            for (int many = 1; many <= 256; many++) {
                Bits row = TestRows.start().plain("1 0 00").number(0, 16).plain(ahead[place]);
                TestRows.howMany(row, many);
                int read = row.size();
                row.toWholeByte();
                String name = "HOW MANY " + many + " at " + place;
                BrotliWords x = new BrotliWords();
                Check.feedAll(x, row.bytes());
                if (many > 12) {
                    Check.due(name, x.open(), -17);
                    Check.due(name + ": read()", x.read(), read);
                    Check.due(name + ": part()", x.part(0, what[place]), 0);
                } else {
                    Check.due(name, x.open(), -11);
                    Check.due(name + ": read()", x.read(), row.size());
                    Check.due(name + ": part()", x.part(0, what[place]), many);
                }
            }
        }
    }

    /** KINDS and two signs in the first CODE, 26 in the second: one more is RULE 12. */
    private static void kindsHaveTheirCodes() {
        for (int kinds = 2; kinds <= 12; kinds++) {
            int width = kinds + 1 < 4 ? 2 : kinds + 1 < 8 ? 3 : 4;
            for (int sign = kinds + 1; sign < 1 << width; sign++) {
                Bits row = TestRows.start().plain("1 0 00").number(0, 16);
                TestRows.lone(TestRows.howMany(row, kinds), sign, width);
                String name = kinds + " KINDS, sign " + sign;
                int read = row.size();
                if (sign > kinds + 1) {
                    TestRows.opened(name, row.toWholeByte(), -22, read);
                    continue;
                }
                for (int count = 25; count <= 26; count++) {
                    Bits more = TestRows.lone(row.copy(), count, 5);
                    int end = more.size();
                    more.toWholeByte();
                    TestRows.opened(name + ", COUNT " + count, more, count == 26 ? -22 : -11, count == 26 ? end : more.size());
                }
            }
        }
    }

    /** A CODE of distances has 16 + DIRECT + 48 times 2^POSTFIX signs. */
    private static void directAndPostfix() {
        for (int postfix = 0; postfix < 4; postfix++) {
            for (int direct = 0; direct < 16; direct++) {
                int a = 16 + (direct << postfix) + (48 << postfix);
                int width = 32 - Integer.numberOfLeadingZeros(a - 1);
                for (int sign = a - 1; sign <= a && sign < 1 << width; sign++) {
                    Bits row = TestRows.start().plain("1 0 00").number(0, 16).plain("0 0 0");
                    row.number(postfix, 2).number(direct, 4).plain("00  0 0");
                    TestRows.lone(row, 'a', 8);
                    TestRows.lone(row, TestRows.command(1, 0), 10);
                    TestRows.lone(row, sign, width);
                    String name = "POSTFIX " + postfix + ", DIRECT " + direct + ", sign " + sign;
                    int read = row.size();
                    row.toWholeByte();
                    BrotliWords x = TestRows.opened(name, row, sign < a ? 1 : -22, sign < a ? row.size() : read);
                    Check.due(name + ": part(0, 7)", x.part(0, 7), postfix);
                    Check.due(name + ": part(0, 8)", x.part(0, 8), direct << postfix);
                    if (sign < a) {
                        Check.due(name + ": length() of the last", x.length(2, 0, a - 1), 0);
                        Check.due(name + ": length() behind it", x.length(2, 0, a), -1);
                    }
                }
            }
        }
    }

    /** Each KIND of literals has two bits of MODE: of twelve the last one, too. */
    private static void modesOfEachKind() {
        for (int kinds : new int[] {1, 2, 12}) {
            Bits row = TestRows.start().plain("1 0 00").number(0, 16);
            TestRows.howMany(row, kinds);
            if (kinds > 1) {
                TestRows.lone(row, 0, kinds == 2 ? 2 : 4);
                TestRows.lone(row, 25, 5).number(5, 24);
            }
            row.plain("0 0  00 0000").number(-1, 2 * kinds).plain("0 0");
            TestRows.codes(row, TestRows.command(1, 0), 0);
            BrotliWords x = TestRows.opened(new BrotliWords(), kinds + " MODES", row, "a");
            Check.due("the MAP's end", x.map(0, 64 * kinds - 1), 0);
            Check.due("none behind it", x.map(0, 64 * kinds), -1);
        }
    }

    private static void behindTheLastPart() {
        for (int more = 1; more <= 3; more++) {
            Bits row = TestRows.start().plain("11").toWholeByte().number(0, 8 * more);
            BrotliWords x = TestRows.opened(more + " bytes more", row, -26, 24);
            Check.due("the PART was there", x.count(3), 1);
        }
        TestRows.opened("a byte of 1s more", TestRows.start().plain("11").toWholeByte().number(255, 8), -26, 24);
        Bits row = TestRows.codes(TestRows.lastHead(TestRows.start(), 1), TestRows.command(1, 0), 0).toWholeByte();
        int read = row.size();
        BrotliWords x = TestRows.opened("a byte behind a CODED one", row.number(0, 8), -26, read);
        Check.due("OUT is of nothing", x.out(0), -1);
        Check.due("its commands stay", x.part(0, 9), 1);
    }
}
