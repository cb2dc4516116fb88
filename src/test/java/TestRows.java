/** Pieces of rows that the tests by hand share. */
final class TestRows {
    private TestRows() {
    }

    /** DIGEST and SPAN 16. */
    static Bits start(BrotliWords x) {
        return new Bits().number(x.digest(), 16).plain("0");
    }

    /** A CODED PART that is LAST, up to its CODES: one KIND and TREE of each SORT, all else 0. */
    static Bits lastHead(Bits row, int size) {
        return row.plain("1 0 00").number(size - 1, 16).plain("0 0 0  00 0000  00  0 0");
    }

    /** One that is not LAST. */
    static Bits head(Bits row, int size) {
        return row.plain("0 00").number(size - 1, 16).plain("0  0 0 0  00 0000  00  0 0");
    }

    /** A CODE of one sign. */
    static Bits lone(Bits row, int sign, int width) {
        return row.number(1, 2).number(0, 2).number(sign, width);
    }

    /** A CODE of two signs, of which the lesser one is 0. */
    static Bits two(Bits row, int a, int b, int width) {
        return row.number(1, 2).number(1, 2).number(a, width).number(b, width);
    }
}
