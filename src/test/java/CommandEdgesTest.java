/** Promise 12 and section 2 of the document, COMMANDS: each boundary, one by one. */
public final class CommandEdgesTest {
    public static void main(String[] args) {
        eachCount();
        countThatEndsWithThePart();
        oneKindHasNoEnd();
        kindsThatWrapAround();
        kindBeforeThisOne();
        kindsBeginAnewWithAPart();
        eachCommand();
        eachInsert();
        eachCopy();
        insertThatReachesLength();
        copyThatReachesLength();
        contextOfNothing();
        contextFromEarlierParts();
        contextsOfEachKind();
        distanceTreeByCopy();
        copiesOfEachKind();
        signsOfTheRing();
        distanceNotAbove0();
        directSigns();
        farSigns();
        whatComesToTheRing();
        ringFromPartToPart();
        mostOfOut();
        copyIntoItself();
        wordsBehindOut();
        wordsThatDoNotFitBehindOut();
        Check.finish();
    }

    private static Bits insert(Bits row, int insert) {
        int code = TestRows.codeOf(SlowOpen.INSERT, insert);
        return row.number(insert - SlowOpen.INSERT[code][0], SlowOpen.INSERT[code][1]);
    }

    private static int insertAlone(int insert) {
        return TestRows.command(TestRows.codeOf(SlowOpen.INSERT, insert), 0);
    }

    /** A MAP of literals that gives each KIND of two its TREE: 64 0s and 64 1s. */
    private static Bits twoTrees(Bits row) {
        row.plain("1 000").plain("1").number(5, 4);
        TestRows.two(row, 6, 7, 3);
        return row.plain("0").number(0, 6).plain("1".repeat(64)).plain("0");
    }

    /** The least and the most of each COUNT: so many literals of KIND 0, then those of KIND 1. */
    private static void eachCount() {
        for (int sign = 0; sign < 26; sign++) {
            for (int way = 0; way < 2; way++) {
                int bits = SlowOpen.COUNT[sign][1];
                int more = way == 0 ? 0 : (1 << bits) - 1;
                int count = SlowOpen.COUNT[sign][0] + more;
                int size = Math.min(count + 1, 3000);
                Bits row = TestRows.start().plain("1 0 00").number(size - 1, 16).plain("1 000");
                TestRows.lone(row, 1, 2);
                TestRows.lone(row, sign, 5).number(more, bits);
                twoTrees(row.plain("0 0  00 0000  0000")).plain("0");
                TestRows.lone(row, 'a', 8);
                TestRows.lone(row, 'b', 8);
                TestRows.lone(row, insertAlone(size), 10);
                insert(TestRows.lone(row, 0, 6), size);
                String due = "a".repeat(size);
                if (count < 3000) {
                    // The KIND changes without a bit (a lone sign 1); then its COUNT.
                    row.number(0, bits);
                    due = "a".repeat(count) + "b";
                }
                TestRows.opened(new BrotliWords(), "COUNT " + count, row, due);
            }
        }
    }

    /** When LENGTH is reached with a COUNT of 0 no other KIND is read. */
    private static void countThatEndsWithThePart() {
        Bits row = TestRows.start().plain("1 0 00").number(3, 16).plain("1 000");
        TestRows.two(row, 0, 1, 2);
        TestRows.lone(row, 0, 5).number(3, 2);
        row.plain("0 0  00 0000  0000  0 0");
        TestRows.codes(row, insertAlone(4), 0);
        int size = row.size();
        BrotliWords x = TestRows.opened(new BrotliWords(), "COUNT 4 of 4", row, "aaaa");
        Check.due("no bit more", row.size() - size < 8 ? 1 : 0, 1);
        Check.due("one command", x.part(0, 9), 1);
    }

    /** 3,000 literals, and 1,000 commands, of one KIND. */
    private static void oneKindHasNoEnd() {
        Bits row = TestRows.raw(TestRows.start(), "wxyz");
        TestRows.lastHead(row, 2996);
        // Cell 0: INSERT 0, COPY 2 at DISTANCE 4, without a bit.
        TestRows.codes(row, 0, 0);
        BrotliWords x = TestRows.opened(new BrotliWords(), "1,498 commands", row, "wxyz".repeat(750));
        Check.due("commands", x.part(1, 9), 1498);
        Check.due("copies", x.part(1, 10), 1498);
    }

    /** Twelve KINDS of commands: t = 13 is KIND 11, behind which 0 comes. */
    private static void kindsThatWrapAround() {
        Bits row = TestRows.start().plain("1 0 00").number(11, 16).plain("0");
        TestRows.howMany(row, 12);
        // t: 1 is 0, 13 is 1.
        TestRows.two(row, 1, 13, 4);
        TestRows.lone(row, 0, 5).number(0, 2);
        row.plain("0  00 0000  00  0 0");
        row.number(1, 2).number(3, 2).number('a', 8).number('b', 8).number('c', 8).number('d', 8).plain("0");
        // KIND 0 inserts 4, KIND 11 2, all others 1, and each copies 2 at DISTANCE 4.
        for (int kind = 0; kind < 12; kind++) {
            TestRows.lone(row, kind == 0 ? 8 * 4 : kind == 11 ? 8 * 2 : 8, 10);
        }
        TestRows.lone(row, 0, 6);
        // KIND 0: abcd and ab; KIND 11: da and a copy; then t = 1 is KIND 0, whose INSERT is too long: RULE 8.
        // Any other KIND would have read a literal or two.
        row.plain("00 01 10 11").plain("1").number(0, 2).plain("11 00");
        row.plain("0").number(0, 2);
        BrotliWords x = TestRows.opened("KINDS that wrap around", row, -18, row.size());
        Check.due("three commands", x.part(0, 9), 3);
        Check.due("two copies", x.part(0, 10), 2);
    }

    /** t = 0 is 1 at first, then the KIND before; it may be the same one. */
    private static void kindBeforeThisOne() {
        // Three KINDS with TREES of their own: t of 0, 2 and 4, COUNT 1 each; sign 0 is '0', 2 is '10', 4 is '11'.
        Bits row = TestRows.start().plain("1 0 00").number(7, 16);
        TestRows.howMany(row, 3);
        row.number(1, 2).number(2, 2).number(0, 3).number(2, 3).number(4, 3);
        TestRows.lone(row, 0, 5).number(0, 2);
        row.plain("0 0  00 0000  000000");
        TestRows.howMany(row, 3).plain("1").number(5, 4);
        row.number(1, 2).number(2, 2).number(6, 4).number(7, 4).number(8, 4);
        row.plain("0").number(0, 6).plain("10".repeat(64)).plain("11".repeat(64)).plain("0").plain("0");
        TestRows.lone(row, '0', 8);
        TestRows.lone(row, '1', 8);
        TestRows.lone(row, '2', 8);
        TestRows.lone(row, insertAlone(8), 10);
        insert(TestRows.lone(row, 0, 6), 8);
        // 0; t 0: 1; t 0: 0; t 2: 0 again, and the one before is 0 then; t 0: 0; t 4: 2; t 0: 0; t 0: 2.
        for (String t : new String[] {"0", "0", "10", "0", "11", "0", "0"}) {
            row.plain(t).number(0, 2);
        }
        TestRows.opened(new BrotliWords(), "the KIND before", row, "01000202");
    }

    private static void kindsBeginAnewWithAPart() {
        Bits row = TestRows.start();
        for (int part = 0; part < 2; part++) {
            row.plain(part == 0 ? "0 00" : "1 0 00").number(2, 16).plain(part == 0 ? "0" : "").plain("1 000");
            TestRows.lone(row, 0, 2);
            TestRows.lone(row, 0, 5).number(part == 0 ? 1 : 0, 2);
            twoTrees(row.plain("0 0  00 0000  0000")).plain("0");
            TestRows.lone(row, 'a', 8);
            TestRows.lone(row, 'b', 8);
            TestRows.lone(row, insertAlone(3), 10);
            insert(TestRows.lone(row, 0, 6), 3);
            // The first PART: KIND 0 twice, then t = 0: KIND 1, COUNT 4: three of it are left. The second: 0, 1, 0.
            row.number(part == 0 ? 3 : 0, 2);
            if (part == 1) {
                row.number(0, 2);
            }
        }
        TestRows.opened(new BrotliWords(), "KINDS begin anew", row, "aab" + "aba");
    }

    /** Each of the 704 commands with the least INSERT and COPY: what it makes, or RULE 8. */
    private static void eachCommand() {
        for (int c = 0; c < 704; c++) {
            int cell = c / 64;
            int insertCode = 8 * "00001102122".charAt(cell) - 8 * '0' + c / 8 % 8;
            int copyCode = 8 * "01010120212".charAt(cell) - 8 * '0' + c % 8;
            int insert = SlowOpen.INSERT[insertCode][0];
            int copy = SlowOpen.COPY[copyCode][0];
            int size = Math.min(insert + copy, 2996);
            Bits row = TestRows.raw(TestRows.start(), "wxyz");
            TestRows.lastHead(row, size);
            TestRows.codes(row, c, 16);
            row.number(0, SlowOpen.INSERT[insertCode][1] + SlowOpen.COPY[copyCode][1]);
            String name = "command " + c;
            if (insert > size) {
                int read = row.size();
                TestRows.opened(name, row.toWholeByte(), -18, read);
                continue;
            }
            // Behind cells 0 and 1 no distance is read: 4; else sign 16 with a bit 0: 1.
            row.plain(cell < 2 ? "" : "0");
            if (insert + copy > size) {
                int read = row.size();
                TestRows.opened(name, row.toWholeByte(), -18, read);
                continue;
            }
            StringBuilder due = new StringBuilder("wxyz" + "a".repeat(insert));
            int back = cell < 2 ? 4 : 1;
            for (int i = 0; i < copy; i++) {
                due.append(due.charAt(due.length() - back));
            }
            BrotliWords x = TestRows.opened(new BrotliWords(), name, row, due.toString());
            Check.due(name + ": ring(0)", x.ring(0), back);
            Check.due(name + ": copies", x.part(1, 10), 1);
        }
    }

    /** The least and the most of each INSERT code. */
    private static void eachInsert() {
        for (int code = 0; code < 24; code++) {
            int bits = SlowOpen.INSERT[code][1];
            for (int more : new int[] {0, (1 << bits) - 1}) {
                int insert = SlowOpen.INSERT[code][0] + more;
                int size = Math.max(Math.min(insert, 3000), 1);
                Bits row = TestRows.lastHead(TestRows.start(), size);
                // Of a command without literals the COPY is at DISTANCE 4, of which there is none: RULE 10.
                TestRows.codes(row, TestRows.command(code, 0), 0).number(more, bits);
                int read = row.size();
                if (insert == 0) {
                    TestRows.opened("INSERT 0", row.toWholeByte(), -20, read);
                } else if (insert > 3000) {
                    TestRows.opened("INSERT " + insert, row.toWholeByte(), -18, read);
                } else {
                    TestRows.opened(new BrotliWords(), "INSERT " + insert, row, "a".repeat(insert));
                    // One byte less of LENGTH, and it is too long.
                    if (insert > 1) {
                        row = TestRows.lastHead(TestRows.start(), insert - 1);
                        TestRows.codes(row, TestRows.command(code, 0), 0).number(more, bits);
                        TestRows.opened("INSERT " + insert + " of one less", row.toWholeByte(), -18, read);
                    }
                }
            }
        }
    }

    /** The least and the most of each COPY code. */
    private static void eachCopy() {
        for (int code = 0; code < 24; code++) {
            int bits = SlowOpen.COPY[code][1];
            for (int more : new int[] {0, (1 << bits) - 1}) {
                int copy = SlowOpen.COPY[code][0] + more;
                int size = Math.min(copy, 2999);
                for (int less = 0; less < 2; less++) {
                    Bits row = TestRows.raw(TestRows.start(), "z");
                    TestRows.lastHead(row, size - less);
                    TestRows.codes(row, TestRows.command(0, code), 16).number(more, bits).plain("0");
                    int read = row.size();
                    if (copy > size - less) {
                        BrotliWords x = TestRows.opened("COPY " + copy + " of less", row.toWholeByte(), -18, read);
                        Check.due("it does not come to THE RING", x.ring(0), 4);
                    } else {
                        TestRows.opened(new BrotliWords(), "COPY " + copy, row, "z".repeat(copy + 1));
                    }
                }
            }
        }
    }

    /** If LENGTH is reached no distance is read, and no COPY is made. */
    private static void insertThatReachesLength() {
        for (int c : new int[] {8 * 2, 64 + 8 * 2, 2 * 64 + 8 * 2, 3 * 64 + 8 * 2, 6 * 64 + 8 * 2 + 7}) {
            Bits row = TestRows.codes(TestRows.lastHead(TestRows.start(), 2), c, 63);
            row.number(0, SlowOpen.COPY[8 * "01010120212".charAt(c / 64) - 8 * '0' + c % 8][1]);
            BrotliWords x = TestRows.opened(new BrotliWords(), "INSERT 2 of 2 by " + c, row, "aa");
            Check.due("no copy", x.part(0, 10), 0);
            Check.due("a command", x.part(0, 9), 1);
            Check.due("ring(0)", x.ring(0), 4);
        }
    }

    /** Behind the COPY that reaches LENGTH no command is read. */
    private static void copyThatReachesLength() {
        Bits row = TestRows.lastHead(TestRows.start(), 6);
        TestRows.codes(row, 8 * 4, 0);
        int size = row.size();
        BrotliWords x = TestRows.opened(new BrotliWords(), "INSERT 4 and COPY 2 of 6", row, "aaaaaa");
        Check.due("a command", x.part(0, 9), 1);
        Check.due("no bit more", row.size() - size < 8 ? 1 : 0, 1);
        // One byte more of LENGTH, and the next command is too long.
        row = TestRows.codes(TestRows.lastHead(TestRows.start(), 7), 8 * 4, 0);
        x = TestRows.opened("of 7", row, -18, row.size());
        Check.due("two commands", x.part(0, 9), 2);
    }

    /** Two TREES: 'A' by CONTEXT 0, 'B' by all others. */
    private static Bits treeOf0(Bits row, int mode) {
        row.plain("0 0 0  00 0000").number(mode, 2);
        // TREES 2, no RUNS: CONTEXT 0 has TREE 0, 63 others TREE 1.
        row.plain("1 000").plain("0");
        TestRows.two(row, 0, 1, 1);
        row.plain("0").plain("1".repeat(63)).plain("0").plain("0");
        TestRows.lone(row, 'A', 8);
        return TestRows.lone(row, 'B', 8);
    }

    /** Without bytes before p and q are 0, with one q is. */
    private static void contextOfNothing() {
        for (int mode = 0; mode < 4; mode++) {
            Bits row = TestRows.start().plain("1 0 00").number(1, 16);
            treeOf0(row, mode);
            TestRows.lone(row, insertAlone(2), 10);
            TestRows.lone(row, 0, 6);
            TestRows.opened(new BrotliWords(), "MODE " + mode + " of nothing", row, "AB");
        }
    }

    private static void contextFromEarlierParts() {
        for (int mode = 0; mode < 4; mode++) {
            // MODE 0 and 1 of a byte 0 are CONTEXT 0, MODE 2 and 3 see the byte before it.
            Bits row = TestRows.raw(TestRows.start(), "Z" + (char) 0);
            // What is PASSED OVER is not before it.
            row.plain("0 11 0").number(1, 2).number(1, 8).text("XY");
            row.plain("1 0 00").number(0, 16);
            treeOf0(row, mode);
            TestRows.lone(row, insertAlone(1), 10);
            TestRows.lone(row, 0, 6);
            TestRows.opened(new BrotliWords(), "MODE " + mode + " behind Z, 0", row, "Z" + (char) 0 + (mode < 2 ? "A" : "B"));
        }
    }

    /** Three KINDS: the MAP's number 64 times KIND and CONTEXT has TREE 1, those around it TREE 0. */
    private static void contextsOfEachKind() {
        for (int kind = 0; kind < 3; kind++) {
            for (int context : new int[] {0, 1, 62, 63}) {
                for (int asked = Math.max(context - 1, 0); asked <= Math.min(context + 1, 63); asked++) {
                    Bits row = TestRows.raw(TestRows.start(), "" + (char) asked).plain("1 0 00").number(1, 16);
                    TestRows.howMany(row, 3);
                    // t leads to the KIND; the first literal is of KIND 0, COUNT 1 each.
                    TestRows.lone(row, kind + 2, 3);
                    TestRows.lone(row, 0, 5).number(0, 2);
                    row.plain("0 0  00 0000").number(0, 6);
                    TestRows.howMany(row, 3).plain("0");
                    // Signs 0, 1, 2: 0, 10, 11. All of KIND 0 that is not asked for makes the byte that is asked for.
                    row.number(1, 2).number(2, 2).number(0, 2).number(1, 2).number(2, 2);
                    for (int i = 0; i < 192; i++) {
                        row.plain(i == 64 * kind + context ? "10" : "0");
                    }
                    row.plain("0").plain("0");
                    TestRows.lone(row, asked, 8);
                    TestRows.lone(row, 'Y', 8);
                    TestRows.lone(row, 'Z', 8);
                    TestRows.lone(row, insertAlone(2), 10);
                    TestRows.lone(row, 0, 6).number(0, 2);
                    // MODE 0: CONTEXT is the byte before; the first literal is of KIND 0.
                    boolean first = kind == 0 && asked == context;
                    int before = first ? 'Y' % 64 : asked;
                    boolean second = before == context;
                    String due = "" + (char) asked + (first ? 'Y' : (char) asked) + (second ? 'Y' : (char) asked);
                    TestRows.opened(new BrotliWords(), "KIND " + kind + ", CONTEXT " + context + ", asked " + asked, row, due);
                }
            }
        }
    }

    /** COPY 2, 3, 4, 5 and above have the MAP's numbers 0 .. 3. */
    private static void distanceTreeByCopy() {
        for (int copyCode = 0; copyCode < 24; copyCode++) {
            int copy = SlowOpen.COPY[copyCode][0];
            Bits row = TestRows.raw(TestRows.start(), "uvwxyz");
            row.plain("1 0 00").number(copy - 1, 16).plain("0 0 0  00 0000  00  0");
            // TREES 4, no RUNS, a MAP of 4: 3, 2, 1, 0.
            TestRows.howMany(row, 4).plain("0");
            row.number(1, 2).number(3, 2).number(0, 2).number(1, 2).number(2, 2).number(3, 2).plain("0");
            row.plain("11 10 01 00").plain("0");
            TestRows.lone(row, 'a', 8);
            TestRows.lone(row, TestRows.command(0, copyCode), 10);
            // TREE 0, 1, 2, 3: DISTANCE 4, 3, 2, 1 by signs 0, 4, 6, 8.
            for (int sign : new int[] {0, 4, 6, 8}) {
                TestRows.lone(row, sign, 6);
            }
            row.number(0, SlowOpen.COPY[copyCode][1]);
            int place = Math.min(copy - 2, 3);
            int back = 1 + place;
            StringBuilder due = new StringBuilder("uvwxyz");
            for (int i = 0; i < copy; i++) {
                due.append(due.charAt(due.length() - back));
            }
            BrotliWords x = TestRows.opened(new BrotliWords(), "TREE of COPY " + copy, row, due.toString());
            Check.due("map(1, " + place + ")", x.map(1, place), 3 - place);
        }
    }

    /** Three KINDS of distances: the MAP's number 4 times KIND and COPY less 2 has TREE 1, all others TREE 0. */
    private static void copiesOfEachKind() {
        for (int kind = 0; kind < 3; kind++) {
            for (int place = 0; place < 4; place++) {
                for (int copy = 2; copy <= 9; copy++) {
                    Bits row = TestRows.raw(TestRows.start(), "uvwxyz").plain("1 0 00").number(copy + 1, 16).plain("0 0");
                    TestRows.howMany(row, 3);
                    TestRows.lone(row, kind + 2, 3);
                    TestRows.lone(row, 0, 5).number(0, 2);
                    row.plain("00 0000  00  0");
                    TestRows.howMany(row, 2).plain("0");
                    TestRows.two(row, 0, 1, 1);
                    for (int i = 0; i < 12; i++) {
                        row.plain(i == 4 * kind + place ? "1" : "0");
                    }
                    row.plain("0");
                    TestRows.lone(row, 'a', 8);
                    // A COPY of 2 by KIND 0, then the one that is asked for by the KIND.
                    boolean two = copy > 2;
                    if (two) {
                        TestRows.two(row, TestRows.command(0, 0), TestRows.command(0, copy - 2), 10);
                    } else {
                        TestRows.lone(row, TestRows.command(0, 0), 10);
                    }
                    // TREE 0: sign 0, the last; TREE 1: sign 3, the fourth last.
                    TestRows.lone(row, 0, 6);
                    TestRows.lone(row, 3, 6);
                    row.plain(two ? "0" : "").plain(two ? "1" : "").number(0, 2);
                    StringBuilder due = new StringBuilder("uvwxyz");
                    // Sign 0 is DISTANCE 4; sign 3 the fourth last, 16 at first: then there is no such byte.
                    boolean first = kind == 0 && place == 0;
                    boolean second = place == Math.min(copy - 2, 3);
                    String name = "KIND " + kind + ", place " + place + ", COPY " + copy;
                    if (first || second) {
                        BrotliWords x = new BrotliWords();
                        Check.feedAll(x, row.toWholeByte().bytes());
                        Check.due(name, x.open(), -20);
                        Check.due(name + ": copies", x.part(1, 10), first ? 0 : 1);
                        continue;
                    }
                    for (int i = 0; i < copy + 2; i++) {
                        due.append(due.charAt(due.length() - 4));
                    }
                    TestRows.opened(new BrotliWords(), name, row, due.toString());
                }
            }
        }
    }

    private static final int[] NEAR = {4, 11, 15, 16, 3, 5, 2, 6, 1, 7, 10, 12, 9, 13, 8, 14};

    private static void signsOfTheRing() {
        for (int sign = 0; sign < 16; sign++) {
            for (int postfix = 0; postfix < 4; postfix += 3) {
                String text = "abcdefghijklmnopqrst";
                Bits row = TestRows.raw(TestRows.start(), text).plain("1 0 00").number(1, 16).plain("0 0 0");
                row.number(postfix, 2).number(15 * postfix / 3, 4).plain("00  0 0");
                TestRows.lone(row, 'a', 8);
                TestRows.lone(row, TestRows.command(0, 0), 10);
                TestRows.lone(row, sign, postfix == 0 ? 6 : 10);
                int back = NEAR[sign];
                StringBuilder due = new StringBuilder(text);
                String name = "sign " + sign + ", POSTFIX " + postfix;
                for (int i = 0; i < 2; i++) {
                    due.append(due.charAt(due.length() - back));
                }
                BrotliWords x = TestRows.opened(new BrotliWords(), name, row, due.toString());
                int[] ring = sign == 0 ? new int[] {4, 11, 15, 16} : new int[] {back, 4, 11, 15};
                for (int i = 0; i < 4; i++) {
                    Check.due(name + ": ring(" + i + ")", x.ring(i), ring[i]);
                }
            }
        }
    }

    /** THE RING's last ones are made 1 .. 4; then each sign less 1, 2, 3 of them. */
    private static void distanceNotAbove0() {
        for (int second = 0; second < 2; second++) {
            for (int last = 1; last <= 4; last++) {
                for (int k = 0; k < 3; k++) {
                    int sign = 4 + 6 * second + 2 * k;
                    Bits row = TestRows.raw(TestRows.start(), "abcdefghij");
                    // The commands: COPY 2 at the DISTANCE that shall be the last (signs 16, 17), COPY 2 at 5 behind it.
                    TestRows.head(row, 2);
                    TestRows.codes(row, TestRows.command(0, 0), 16 + (last - 1) / 2).number((last - 1) % 2, 1);
                    if (second == 1) {
                        TestRows.head(row, 2);
                        TestRows.codes(row, TestRows.command(0, 0), 18).number(0, 2);
                    }
                    TestRows.lastHead(row, 2);
                    TestRows.codes(row, TestRows.command(0, 0), sign);
                    int distance = last - 1 - k;
                    String name = "DISTANCE " + distance + " by sign " + sign;
                    int had = 12 + 2 * second;
                    if (distance <= 0) {
                        int read = row.size();
                        BrotliWords x = TestRows.opened(name, row.toWholeByte(), -19, read);
                        Check.due(name + ": ring", x.ring(second), last);
                        Check.due(name + ": its command was read", x.part(2 + second, 9), 1);
                        Check.due(name + ": no copy", x.part(2 + second, 10), 0);
                    } else {
                        row.toWholeByte();
                        BrotliWords x = TestRows.opened(name, row, had + 2, row.size());
                        Check.due(name + ": ring(0)", x.ring(0), distance);
                    }
                }
            }
        }
    }

    private static Bits withDistance(int had, int postfix, int direct, int sign) {
        Bits row = TestRows.manyZ(TestRows.start(), had);
        row.plain("1 0 00").number(1, 16).plain("0 0 0").number(postfix, 2).number(direct, 4).plain("00  0 0");
        int a = 16 + (direct << postfix) + (48 << postfix);
        TestRows.lone(row, 'a', 8);
        TestRows.lone(row, TestRows.command(0, 0), 10);
        return TestRows.lone(row, sign, 32 - Integer.numberOfLeadingZeros(a - 1));
    }

    /** Signs 16 .. 15 + DIRECT: the DISTANCES 1 .. DIRECT, without a bit more. */
    private static void directSigns() {
        for (int postfix = 0; postfix < 4; postfix++) {
            for (int direct : new int[] {1, 2, 15}) {
                int most = direct << postfix;
                for (int distance : new int[] {1, 2, most - 1, most}) {
                    if (distance < 1 || distance > most) {
                        continue;
                    }
                    Bits row = withDistance(2990, postfix, direct, 15 + distance);
                    int read = row.size();
                    row.toWholeByte();
                    String name = "DIRECT " + most + ", DISTANCE " + distance;
                    BrotliWords x = TestRows.opened(name, row, 2992, row.size());
                    Check.due(name + ": no bit more", row.size() - read < 8 ? 1 : 0, 1);
                    Check.due(name + ": ring(0)", x.ring(0), distance);
                    Check.due(name + ": ring(1)", x.ring(1), 1);
                }
            }
        }
    }

    /** Each sign above 15 + DIRECT with its least and its most bits; the far ones are beyond OUT. */
    private static void farSigns() {
        for (int postfix = 0; postfix < 4; postfix++) {
            for (int direct : new int[] {0, 1, 15}) {
                long expect = (direct << postfix) + 1;
                int signs = 48 << postfix;
                for (int x = 0; x < signs; x++) {
                    int n = 1 + (x >> postfix + 1);
                    for (int e : new int[] {0, (1 << n) - 1}) {
                        Bits row = withDistance(2990, postfix, direct, 16 + (direct << postfix) + x).number(e, n);
                        long high = (2 + (x >> postfix) % 2) * (1L << n) - 4 + e;
                        long distance = (high << postfix) + x % (1 << postfix) + (direct << postfix) + 1;
                        if (e == 0 && x % (1 << postfix) == 0) {
                            // The least one of each such row of signs follows the greatest one before it.
                            Check.due("DISTANCES have no gap", distance, expect);
                            expect += (1L << n) << postfix;
                        }
                        judgeFar("POSTFIX " + postfix + ", DIRECT " + direct + ", x " + x + ", e " + e, row, distance);
                    }
                }
            }
        }
    }

    private static void judgeFar(String name, Bits row, long distance) {
        BrotliWords x = new BrotliWords();
        int read = row.size();
        Check.feedAll(x, row.toWholeByte().bytes());
        Check.due(name, x.open(), distance <= 2990 ? 2992 : -20);
        Check.due(name + ": read()", x.read(), distance <= 2990 ? row.size() : read);
        Check.due(name + ": ring(0)", x.ring(0), distance <= 2990 ? distance : 1);
    }

    /** A COPY by sign 0 and a WORD do not come to THE RING; others do, by signs 1, 2, 3 as well. */
    private static void whatComesToTheRing() {
        BrotliWords x = new BrotliWords();
        for (int i = 0; i < 16; i++) {
            Check.addWord(x, "wrd" + (char) ('a' + i));
        }
        Bits row = TestRows.raw(TestRows.start(x), "0123456789ABCDEFGHIJ");
        TestRows.lastHead(row, 4 + 2 + 4 + 2 + 2 + 2);
        TestRows.lone(row, 'a', 8);
        // COPY 2 is 0, COPY 4 is 1.
        TestRows.two(row, TestRows.command(0, 0), TestRows.command(0, 2), 10);
        // Signs 0, 1, 3, 20 (13 .. 20 with 3 bits): each of two bits.
        row.number(1, 2).number(3, 2).number(0, 6).number(1, 6).number(3, 6).number(20, 6).plain("0");
        // COPY 4 by sign 0, COPY 2 by sign 3 (16), COPY 4 by sign 20: 20; COPY 2 by sign 1: 16, by sign 1: 20, by sign 3.
        row.plain("1 00").plain("0 10").plain("1 11 111").plain("0 01").plain("0 01").plain("0 10");
        x = TestRows.opened(x, "THE RING", row.toWholeByte(), 36, row.size());
        // 4 11 15 16; 16 4 11 15; 20 16 4 11; 16 20 16 4; 20 16 20 16; 16 20 16 20.
        int[] ring = {16, 20, 16, 20};
        for (int i = 0; i < 4; i++) {
            Check.due("ring(" + i + ")", x.ring(i), ring[i]);
        }
        Check.due("copies", x.part(1, 10), 6);
        // Words by sign 20 (DISTANCE 13 .. 20 behind 12 bytes or less) and by signs 0, 3.
        row = TestRows.lastHead(TestRows.start(x), 12);
        TestRows.lone(row, 'a', 8);
        TestRows.lone(row, TestRows.command(0, 2), 10);
        row.number(1, 2).number(2, 2).number(3, 6).number(0, 6).number(20, 6);
        // Sign 3 is '0', 0 is '10', 20 is '11': y = 15 behind 0 bytes; y = 20 - 4 - 1 = 15 behind 4; y = 7 behind 8.
        row.plain("0").plain("11 111").plain("0");
        TestRows.opened(x, "words by signs", row, "wrdp" + "wrdp" + "wrdh");
        int[] first = {4, 11, 15, 16};
        for (int i = 0; i < 4; i++) {
            Check.due("ring(" + i + ") behind words", x.ring(i), first[i]);
        }
        Check.due("words", x.part(0, 11), 3);
    }

    private static void ringFromPartToPart() {
        Bits row = TestRows.raw(TestRows.start(), "abcdefghij");
        for (int distance : new int[] {5, 6, 7, 8}) {
            TestRows.head(row, 2);
            TestRows.codes(row, TestRows.command(0, 0), 18).number(distance - 5, 2);
        }
        row.plain("0 11 0 00").toWholeByte();
        TestRows.lastHead(TestRows.raw(row, "k"), 2);
        TestRows.codes(row, TestRows.command(0, 0), 3);
        BrotliWords x = new BrotliWords();
        TestRows.opened(x, "THE RING stays", row.toWholeByte(), 21, row.size());
        int[] ring = {5, 8, 7, 6};
        for (int i = 0; i < 4; i++) {
            Check.due("ring(" + i + ")", x.ring(i), ring[i]);
        }
        Check.feedAll(x, TestRows.start().plain("11").toWholeByte().bytes());
        x.open();
        Check.due("another open() begins anew", x.ring(0), 4);
        Check.due("another open() begins anew", x.ring(3), 16);
    }

    /** With n bytes of OUT the DISTANCE n is a COPY, n + 1 the first word. */
    private static void mostOfOut() {
        for (int had = 0; had <= 12; had++) {
            for (int distance = 1; distance <= 14; distance++) {
                BrotliWords x = new BrotliWords();
                Check.addWord(x, "word");
                Bits row = TestRows.start(x);
                String text = "0123456789ABCDEF".substring(0, had);
                if (had > 0) {
                    TestRows.raw(row, text);
                }
                int y = distance - had - 1;
                String made = y < 0 ? "" : SlowWords.changed("word", y);
                StringBuilder due = new StringBuilder(text).append(made);
                for (int i = 0; i < 4 && y < 0; i++) {
                    due.append(due.charAt(due.length() - distance));
                }
                TestRows.lastHead(row, due.length() - had);
                TestRows.codes(row, TestRows.command(0, 2), TestRows.farSign(distance));
                row.number(distance + 3, TestRows.farBits(distance));
                String name = "DISTANCE " + distance + " of " + had;
                TestRows.opened(x, name, row, due.toString());
                int part = had > 0 ? 1 : 0;
                Check.due(name + ": copies", x.part(part, 10), y < 0 ? 1 : 0);
                Check.due(name + ": words", x.part(part, 11), y < 0 ? 0 : 1);
                Check.due(name + ": ring(0)", x.ring(0), y < 0 ? distance : 4);
            }
        }
    }

    private static void copyIntoItself() {
        for (int distance = 1; distance <= 4; distance++) {
            Bits row = TestRows.raw(TestRows.start(), "wxyz");
            TestRows.lastHead(row, 9);
            TestRows.codes(row, TestRows.command(0, 7), 16 + (distance - 1) / 2).number((distance - 1) % 2, 1);
            StringBuilder due = new StringBuilder("wxyz");
            for (int i = 0; i < 9; i++) {
                due.append("wxyz".charAt(4 - distance + i % distance));
            }
            TestRows.opened(new BrotliWords(), "COPY 9 at " + distance, row, due.toString());
        }
    }

    /** What is made has to fit, by whatever CHANGE, not the word's own LENGTH. */
    private static void wordsBehindOut() {
        for (int length = 4; length <= 10; length++) {
            String word = "abcdefghij".substring(0, length);
            for (int change = 0; change < 24; change++) {
                String made = SlowWords.changed(word, change);
                for (int size = made.length() - 1; size <= made.length(); size++) {
                    BrotliWords x = new BrotliWords();
                    Check.addWord(x, word);
                    Bits row = TestRows.lastHead(TestRows.start(x), size);
                    int distance = change + 1;
                    int code = TestRows.codeOf(SlowOpen.COPY, length);
                    TestRows.codes(row, TestRows.command(0, code), TestRows.farSign(distance));
                    row.number(length - SlowOpen.COPY[code][0], SlowOpen.COPY[code][1]).number(distance + 3, TestRows.farBits(distance));
                    String name = word + ", CHANGE " + change + " of " + size;
                    if (size == made.length()) {
                        TestRows.opened(x, name, row, made);
                        Check.due(name + ": words", x.part(0, 11), 1);
                    } else {
                        int read = row.size();
                        TestRows.opened(x, name, row.toWholeByte(), -18, read);
                        Check.due(name + ": words", x.part(0, 11), 0);
                    }
                }
            }
        }
    }

    /** RULE 8 of a word looks at what is left of LENGTH, whatever OUT has. */
    private static void wordsThatDoNotFitBehindOut() {
        for (int had = 1; had <= 9; had += 4) {
            for (int insert = 0; insert < 3; insert++) {
                for (int size = 3; size <= 4; size++) {
                    BrotliWords x = new BrotliWords();
                    Check.addWord(x, "word");
                    String text = "0123456789".substring(0, had);
                    Bits row = TestRows.raw(TestRows.start(x), text);
                    TestRows.lastHead(row, insert + size);
                    int distance = had + insert + 1;
                    TestRows.codes(row, TestRows.command(insert, 2), TestRows.farSign(distance));
                    row.number(distance + 3, TestRows.farBits(distance));
                    String name = "a word of 4 where " + size + " are left, behind " + had + " and " + insert;
                    if (size == 4) {
                        TestRows.opened(x, name, row, text + "a".repeat(insert) + "word");
                    } else {
                        int read = row.size();
                        TestRows.opened(x, name, row.toWholeByte(), -18, read);
                    }
                }
            }
        }
    }
}
