/** Promise 12: KINDS that change, for each SORT, and what a new PART begins with. */
public final class BlocksTest {
    public static void main(String[] args) {
        literalKinds();
        commandKinds();
        distanceKinds();
        Check.finish();
    }

    /** A SORT of three KINDS: five signs of kinds, COUNTS of one sign 0 (1 and two bits). */
    private static void threeKinds(Bits row, int count) {
        row.plain("1").number(1, 3).number(0, 1);
        // Signs 0, 1, 2, 4 by LENGTHS 2: bits 00, 01, 10, 11.
        row.number(1, 2).number(3, 2).number(0, 3).number(1, 3).number(2, 3).number(4, 3).plain("0");
        TestRows.lone(row, 0, 5);
        row.number(count - 1, 2);
    }

    private static void opens(String name, BrotliWords x, Bits row, String due) {
        Check.feedAll(x, row.toWholeByte().bytes());
        Check.due(name + ": open()", x.open(), due.length());
        Check.due(name + ": text " + Check.outOf(x), Check.outOf(x).equals(due) ? 1 : 0, 1);
    }

    private static void literalKinds() {
        BrotliWords x = new BrotliWords();
        Bits row = TestRows.start(x);
        // The second PART begins with KIND 0 again, and with 1 as the one before it.
        for (int part = 0; part < 2; part++) {
            row.plain(part == 0 ? "0 00" : "1 0 00").number(10, 16).plain(part == 0 ? "0" : "");
            threeKinds(row, 2);
            row.plain("0 0  00 0000").number(0, 6);
            // Three TREES, one for each KIND: a MAP of 192 by RUNS 6 (signs 0 .. 8): 64 0s, 64 1s, 64 2s.
            row.plain("1").number(1, 3).number(0, 1).plain("1").number(5, 4);
            row.number(1, 2).number(2, 2).number(6, 4).number(7, 4).number(8, 4);
            row.plain("0").number(0, 6).plain("10".repeat(64)).plain("11".repeat(64)).plain("0");
            row.plain("0");
            TestRows.lone(row, '0', 8);
            TestRows.lone(row, '1', 8);
            TestRows.lone(row, '2', 8);
            TestRows.lone(row, 2 * 64 + 8 * 7, 10);
            TestRows.lone(row, 0, 6);
            // INSERT code 7: 8 and a bit, here 9.
            row.plain("1");
            // KIND 0 twice; t = 0: KIND 1 once; t = 0: KIND 0 twice; t = 1: KIND 1 once; t = 4: KIND 2 once;
            // t = 1: KIND 0 once; t = 0: KIND 2 once.
            row.plain("00").number(0, 2).plain("00").number(1, 2).plain("01").number(0, 2).plain("11").number(0, 2);
            row.plain("01").number(0, 2).plain("00").number(0, 2);
            // Then the copy: 2 bytes by sign 0, DISTANCE 4.
        }
        opens("kinds of literals", x, row, "001001202" + "12" + "001001202" + "12");
    }

    private static void commandKinds() {
        BrotliWords x = new BrotliWords();
        Bits row = TestRows.start(x).plain("1 0 00").number(8, 16).plain("0");
        threeKinds(row, 1);
        row.plain("0  00 0000 00  0 0");
        TestRows.two(row, 'a', 'b', 8);
        // KIND 0: insert 4, copy 2; KIND 1: insert 1, copy 2; KIND 2: insert 0, copy 2. All in cell 0: DISTANCE 4.
        TestRows.lone(row, 8 * 4, 10);
        TestRows.lone(row, 8, 10);
        TestRows.lone(row, 0, 10);
        TestRows.lone(row, 0, 6);
        row.plain("0 0 1 1");
        // t = 4: KIND 2, once: a copy alone.
        row.plain("11").number(0, 2);
        // Eight of nine bytes stand; t = 0 leads back to KIND 0, whose INSERT is 4: RULE 8.
        row.plain("00").number(0, 2);
        Check.feedAll(x, row.toWholeByte().bytes());
        Check.due("kinds of commands: open()", x.open(), -18);
        Check.due("commands", x.part(0, 9), 3);
        Check.due("copies", x.part(0, 10), 2);
    }

    private static void distanceKinds() {
        BrotliWords x = new BrotliWords();
        Bits row = TestRows.start(x).plain("1 0 00").number(9, 16).plain("0 0");
        threeKinds(row, 1);
        row.plain("00 0000 00  0");
        // Two TREES of distances: a MAP of 12: KIND 0 all 0, KIND 1: 0 for COPY 2, else 1; KIND 2 all 1.
        row.plain("1").number(0, 3).plain("0");
        TestRows.two(row, 0, 1, 1);
        row.plain("0000 0111 1111").plain("0");
        row.number(1, 2).number(2, 2).number('a', 8).number('b', 8).number('c', 8);
        // Commands insert 3, copy 2 (cell 2), insert 0, copy 2 and insert 0, copy 3.
        row.number(1, 2).number(2, 2).number(2 * 64 + 8 * 3, 10).number(2 * 64, 10).number(2 * 64 + 1, 10);
        TestRows.lone(row, 16, 6);
        TestRows.lone(row, 17, 6);
        // "abc", a copy of 2 at 1 or 2 (TREE 0: sign 16) of KIND 0.
        row.plain("0").plain("0 10 11").plain("1");
        // COPY 2 of KIND 1 (t = 0): TREE 0: distance 1.
        row.plain("10").plain("00").number(0, 2).plain("0");
        // COPY 3 of KIND 2 (t = 4): TREE 1: sign 17: distance 3.
        row.plain("11").plain("11").number(0, 2).plain("0");
        opens("kinds of distances", x, row, "abc" + "bc" + "cc" + "ccc");
        Check.due("map", x.map(1, 4), 0);
        Check.due("map", x.map(1, 5), 1);
        Check.due("ring", x.ring(0), 3);
        Check.due("ring", x.ring(1), 1);
        Check.due("ring", x.ring(2), 2);
    }
}
