/** Pieces of rows that the tests by hand share. */
final class TestRows {
    /** Sign of a command of which the COPY code has k bits more, k = 0 .. 7: copy codes 0, 8, 10 .. */
    private static final int[] COPY_CODE_OF_BITS = {0, 8, 10, 12, 14, 16, 18, 19};

    private TestRows() {
    }

    /** DIGEST and SPAN 16. */
    static Bits start(BrotliWords x) {
        return new Bits().number(x.digest(), 16).plain("0");
    }

    /** The same without WORDS. */
    static Bits start() {
        return new Bits().number(40293, 16).plain("0");
    }

    /** A CODED PART that is LAST, up to its CODES: one KIND and TREE of each SORT, all else 0. */
    static Bits lastHead(Bits row, int size) {
        return row.plain("1 0 00").number(size - 1, 16).plain("0 0 0  00 0000  00  0 0");
    }

    /** One that is not LAST. */
    static Bits head(Bits row, int size) {
        return row.plain("0 00").number(size - 1, 16).plain("0  0 0 0  00 0000  00  0 0");
    }

    /** A RAW PART. */
    static Bits raw(Bits row, String text) {
        return row.plain("0 00").number(text.length() - 1, 16).plain("1").text(text);
    }

    /** A CODE of one sign. */
    static Bits lone(Bits row, int sign, int width) {
        return row.number(1, 2).number(0, 2).number(sign, width);
    }

    /** A CODE of two signs, of which the lesser one is 0. */
    static Bits two(Bits row, int a, int b, int width) {
        return row.number(1, 2).number(1, 2).number(a, width).number(b, width);
    }

    /** CODES of one literal 'a', of one command, of one distance (of 64). */
    static Bits codes(Bits row, int command, int distance) {
        lone(row, 'a', 8);
        lone(row, command, 10);
        return lone(row, distance, 6);
    }

    /** A CODE at length, each LENGTH by four bits: the marks 0 .. 15 have LENGTH 4 each. */
    static Bits flat(Bits row, int... lengths) {
        row.plain("00").plain("10 10 10 10 10 10 00 10 00").plain("10".repeat(9));
        for (int length : lengths) {
            row.plain(mark(length));
        }
        return row;
    }

    /** A mark of flat(), its highest bit first. */
    static String mark(int m) {
        return "" + (m >> 3 & 1) + (m >> 2 & 1) + (m >> 1 & 1) + (m & 1);
    }

    /** HOW MANY. */
    static Bits howMany(Bits row, int many) {
        if (many == 1) {
            return row.plain("0");
        }
        int n = 31 - Integer.numberOfLeadingZeros(many - 1);
        return row.plain("1").number(n, 3).number(many - 1 - (1 << n), n);
    }

    /** The sign of a command with these codes, in a cell that reads a distance. */
    static int command(int insertCode, int copyCode) {
        int[][] cell = {{2, 3, 6}, {4, 5, 8}, {7, 9, 10}};
        return 64 * cell[insertCode / 8][copyCode / 8] + 8 * (insertCode % 8) + copyCode % 8;
    }

    /** The code whose BASE is the greatest that is not above. */
    static int codeOf(int[][] table, int value) {
        int code = 0;
        while (code + 1 < table.length && table[code + 1][0] <= value) {
            code++;
        }
        return code;
    }

    /** The sign above 15 of a DISTANCE, without POSTFIX and DIRECT: its lowest n bits and 3 are told behind it. */
    static int farSign(int distance) {
        int n = farBits(distance);
        return 16 + 2 * (n - 1) + (distance + 3 >> n & 1);
    }

    static int farBits(int distance) {
        return 30 - Integer.numberOfLeadingZeros(distance + 3);
    }

    /**
     * Behind it the row has so many bits above whole bytes: a CODED PART of one byte 'a', whose
     * COPY is not made and has as many bits more as it takes.
     */
    static Bits shift(Bits row, int above) {
        head(row, 1);
        int more = Math.floorMod(above - (row.size() + 36), 8);
        codes(row, command(1, COPY_CODE_OF_BITS[more]), 0);
        return row.number(0, more);
    }

    /** One byte 'z', then as many more as are asked for, by one COPY at DISTANCE 1. */
    static Bits manyZ(Bits row, int size) {
        raw(row, "z");
        head(row, size - 1);
        int code = codeOf(SlowOpen.COPY, size - 1);
        codes(row, command(0, code), 16);
        return row.number(size - 1 - SlowOpen.COPY[code][0], SlowOpen.COPY[code][1]).plain("0");
    }

    /** Feeds the row, opens it, and asks for the answer and for the bits that were read. */
    static BrotliWords opened(BrotliWords x, String name, Bits row, int answer, int read) {
        Check.feedAll(x, row.bytes());
        Check.due(name + ": open()", x.open(), answer);
        Check.due(name + ": read()", x.read(), read);
        Check.due(name + ": count(1)", x.count(1), 0);
        Check.due(name + ": count(2)", x.count(2), Math.max(answer, 0));
        return x;
    }

    static BrotliWords opened(String name, Bits row, int answer, int read) {
        return opened(new BrotliWords(), name, row, answer, read);
    }

    /** A row that keeps all RULES: all its bytes are read. */
    static BrotliWords opened(BrotliWords x, String name, Bits row, String out) {
        row.toWholeByte();
        opened(x, name, row, out.length(), row.size());
        String made = Check.outOf(x);
        Check.due(name + ": OUT " + (made.equals(out) ? "" : made), made.equals(out) ? 1 : 0, 1);
        return x;
    }
}
