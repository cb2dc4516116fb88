/** Promise 12: the CONTEXT of a literal, for every byte before it, by each MODE. */
public final class ContextTest {
    public static void main(String[] args) {
        for (int mode = 0; mode < 4; mode++) {
            for (int b = 0; b < 256; b++) {
                contexts(mode, b, 0);
                contexts(mode, 0, b);
                contexts(mode, b, 255 - b);
            }
        }
        // Some by hand, as the document has them.
        int[][] byHand = {{2, ' ', 'a', 8 | 3}, {2, 'e', ' ', 56 | 1}, {2, 'E', '5', 48 | 2}, {2, '\n', 127, 4},
            {2, 191, 192, 1 | 2}, {2, 193, 191, 3}, {2, '~', '~', 12 | 1}, {2, '=', 'z', 40 | 3}, {2, '0', 'Z', 44 | 2},
            {3, 255, 254, 8 * 7 + 6}, {3, 16, 15, 8 * 2 + 1}, {3, 0, 64, 3}, {1, 255, 0, 63}, {0, 255, 0, 63}, {0, 64, 9, 0}};
        for (int[] one : byHand) {
            Check.due("context by hand", contextOf(one[0], one[1], one[2]), one[3]);
        }
        Check.finish();
    }

    private static void contexts(int mode, int p, int q) {
        int[] due = {p % 64, p / 4, SlowOpen.first(p) | SlowOpen.second(q), 8 * SlowOpen.size(p) + SlowOpen.size(q)};
        Check.due("mode " + mode + ", p " + p + ", q " + q, contextOf(mode, p, q), due[mode]);
    }

    /** Two rows with eight TREES tell the CONTEXT: its lower and its upper three bits. */
    private static int contextOf(int mode, int p, int q) {
        return tree(mode, p, q, false) + 8 * tree(mode, p, q, true);
    }

    private static int tree(int mode, int p, int q, boolean upper) {
        BrotliWords x = new BrotliWords();
        Bits row = TestRows.start(x);
        row.plain("0 00").number(1, 16).plain("1").text("" + (char) q + (char) p);
        row.plain("1 0 00").number(0, 16).plain("0 0 0  00 0000").number(mode, 2);
        // HOW MANY 8: 1 + 4 + 3; no RUNS; eight signs of LENGTH 3: a lone mark 3, all 18 told.
        row.plain("1").number(2, 3).number(3, 2).plain("0").number(0, 2).plain("00 00 1110").plain("00".repeat(15));
        for (int context = 0; context < 64; context++) {
            int tree = upper ? context / 8 : context % 8;
            row.number(tree >> 2, 1).number(tree >> 1 & 1, 1).number(tree & 1, 1);
        }
        row.plain("0").plain("0");
        for (int tree = 0; tree < 8; tree++) {
            TestRows.lone(row, tree, 8);
        }
        TestRows.lone(row, 2 * 64 + 8, 10);
        TestRows.lone(row, 0, 6);
        Check.feedAll(x, row.bytes());
        return x.open() == 3 ? x.out(2) : -1;
    }
}
