/** Promises 11 and 20 by hand: what is packed at the edges that the document names. */
public final class PackTest {
    public static void main(String[] args) {
        nothing();
        raw();
        wrongLevels();
        literalsAlone();
        longCopies();
        signsOfTheRing();
        wordsOfTheRing();
        copyOrWord();
        leastCost();
        leastWord();
        keptCommands();
        steepMarks();
        Check.finish();
    }

    private static void command(BrotliWords x, int i, int... due) {
        for (int what = 0; what < due.length; what++) {
            Check.due("command(" + i + ", " + what + ")", x.command(i, what), due[what]);
        }
    }

    private static void same(String name, BrotliWords x, Bits row) {
        byte[] bytes = row.bytes();
        Check.due(name + ": size", x.count(2), bytes.length);
        for (int i = 0; i < bytes.length; i++) {
            Check.due(name + ": out(" + i + ")", x.out(i), bytes[i] & 255);
        }
    }

    private static void nothing() {
        for (int level = 0; level < 3; level++) {
            BrotliWords x = new BrotliWords();
            Check.due("pack of nothing", x.pack(level), 3);
            same("nothing", x, TestRows.start(x).plain("11"));
            Check.due("commands", x.count(4), 0);
        }
    }

    private static void raw() {
        BrotliWords x = new BrotliWords();
        Check.feedAll(x, "raw");
        Check.due("pack(0)", x.pack(0), 9);
        same("raw", x, TestRows.start(x).plain("0 00").number(2, 16).plain("1").text("raw").plain("11"));
        Check.due("commands", x.count(4), 0);
        Check.due("the tape is empty", x.count(1), 0);
        Check.feedAll(x, "z".repeat(2000));
        Check.due("pack(0) of 2,000", x.pack(0), 2006);
        Check.due("pass()", x.pass(), 2006);
        Check.due("open()", x.open(), 2000);
    }

    private static void wrongLevels() {
        BrotliWords x = new BrotliWords();
        Check.feedAll(x, "some bytes");
        x.pack(1);
        int size = x.count(2);
        int commands = x.count(4);
        Check.feedAll(x, "y".repeat(2001));
        int[] levels = {-1, 3, 0, 1, 2, Integer.MIN_VALUE, Integer.MAX_VALUE};
        for (int level : levels) {
            Check.due("pack(" + level + ") of 2,001", x.pack(level), BrotliWords.BAD);
        }
        Check.due("the tape stays", x.count(1), 2001);
        Check.due("OUT stays", x.count(2), size);
        Check.due("commands stay", x.count(4), commands);
        x.wipe();
        Check.feedAll(x, "y".repeat(2000));
        Check.due("pack(3)", x.pack(3), BrotliWords.BAD);
        Check.due("pack(2) of 2,000", Math.min(x.pack(2), 1), 1);
        Check.due("commands of 2,000", x.count(4), 10);
        x.pass();
        Check.due("open", x.open(), 2000);
    }

    /** Five bytes: one command at the end, a CODE of two literals, no distance at all. */
    private static void literalsAlone() {
        for (int level = 1; level < 3; level++) {
            BrotliWords x = new BrotliWords();
            Check.feedAll(x, "abbab");
            x.pack(level);
            // INSERT 5 is code 5, COPY 2 code 0: cell 2.
            command(x, 0, 5, 0, 0, 2 * 64 + 8 * 5);
            Check.due("commands", x.count(4), 1);
            Check.due("none behind", x.command(1, 0), BrotliWords.BAD);
            Check.due("no such what", x.command(0, 4), BrotliWords.BAD);
            Check.due("no such what", x.command(0, -1), BrotliWords.BAD);
            Check.due("no such command", x.command(-1, 0), BrotliWords.BAD);
            Bits row = TestRows.lastHead(TestRows.start(x), 5);
            TestRows.two(row, 'a', 'b', 8);
            TestRows.lone(row, 2 * 64 + 8 * 5, 10);
            TestRows.lone(row, 0, 6);
            same("abbab", x, row.plain("0 1 1 0 1"));
        }
    }

    private static void longCopies() {
        BrotliWords x = new BrotliWords();
        Check.feedAll(x, "a".repeat(300));
        x.pack(1);
        Check.due("commands", x.count(4), 2);
        // COPY 200 is code 19 (198), DISTANCE 1 sign 16; cell 6. COPY 99 is code 16 (70): sign 0, cell 6 too.
        command(x, 0, 1, 200, 1, 6 * 64 + 8 + 3);
        command(x, 1, 0, 99, 1, 6 * 64);
        Bits row = TestRows.lastHead(TestRows.start(x), 300);
        TestRows.lone(row, 'a', 8);
        TestRows.two(row, 6 * 64, 6 * 64 + 11, 10);
        TestRows.two(row, 0, 16, 6);
        row.plain("1").number(2, 7).plain("1 0").plain("0").number(29, 5).plain("0");
        same("300 bytes", x, row);
    }

    /** Signs 1, 2, 3 of THE RING, and cells 0 and 1 for sign 0. */
    private static void signsOfTheRing() {
        BrotliWords x = new BrotliWords();
        Check.feedAll(x, "abcdefghijklmno" + "lmno" + "XYZ0123" + "XYZ0123WWW" + "0123WWWk" + "Q0123WWWk!");
        x.pack(1);
        // DISTANCE 4 is the last one at first.
        command(x, 0, 15, 4, 4, 4 * 64 + 8 * (9 - 8) + 2);
        command(x, 1, 7, 7, 7, 2 * 64 + 8 * 6 + 5);
        command(x, 2, 3, 7, 7, 0 * 64 + 8 * 3 + 5);
        command(x, 3, 2, 8, 9);
        Check.due("commands", x.count(4), 5);
        x.pass();
        Check.due("open", x.open(), 54);
        Check.due("ring", x.ring(0), 9);
        Check.due("ring", x.ring(1), 7);
        Check.due("ring", x.ring(2), 4);
    }

    /** A WORD whose DISTANCE stands in THE RING has that sign, and does not come to it. */
    private static void wordsOfTheRing() {
        BrotliWords x = new BrotliWords();
        Check.addWord(x, "word");
        Check.feedAll(x, "123word-4567890word");
        x.pack(1);
        // At 3 DISTANCE 4 is the last one: cell 0. At 15 DISTANCE 16 is the fourth last one.
        command(x, 0, 3, 4, 4, 8 * 3 + 2);
        Check.due("second one is a copy", x.command(1, 2), 12);
        x.wipe();
        Check.feedAll(x, "1234567890abcdeword");
        x.pack(1);
        command(x, 0, 15, 4, 16, 4 * 64 + 8 + 2);
        x.pass();
        Check.due("open", x.open(), 19);
        Check.due("words", x.part(0, 11), 1);
        int[] ring = {4, 11, 15, 16};
        for (int i = 0; i < 4; i++) {
            Check.due("ring(" + i + ")", x.ring(i), ring[i]);
        }
        Check.due("length of sign 3", x.length(2, 0, 3), 0);
    }

    private static void copyOrWord() {
        BrotliWords x = new BrotliWords();
        Check.addWord(x, "equal");
        Check.feedAll(x, "equalequal");
        x.pack(1);
        command(x, 0, 0, 5, 1);
        command(x, 1, 0, 5, 5);
        x.pass();
        x.open();
        Check.due("of like ones a copy", x.part(0, 10), 1);
        Check.due("and a word before", x.part(0, 11), 1);
        Check.feedAll(x, "equalequal ");
        x.pack(1);
        // "equal " makes six: CHANGE 6 of a LENGTH with one word is y = 6.
        command(x, 1, 0, 5, 5 + 1 + 6);
    }

    /** LEVEL 1 takes what is longest at once; LEVEL 2 what costs least. */
    private static void leastCost() {
        BrotliWords x = new BrotliWords();
        String text = "abcd-bcdefghij-abcdefghij";
        Check.feedAll(x, text);
        x.pack(1);
        command(x, 0, 15, 4, 15);
        command(x, 1, 0, 6, 11);
        Check.due("commands of level 1", x.count(4), 2);
        Check.feedAll(x, text);
        x.pack(2);
        // "a" and "bcdefghij" cost 9 and 24, "abcd" and "efghij" 24 each.
        command(x, 0, 16, 9, 11);
        Check.due("commands of level 2", x.count(4), 1);
    }

    /** Of words that make as many bytes the least LENGTH, then number, then CHANGE. */
    private static void leastWord() {
        BrotliWords x = new BrotliWords();
        Check.addWord(x, "xabcd");
        Check.addWord(x, "abcde");
        Check.addWord(x, "ABCD");
        Check.addWord(x, "abcd");
        Check.addWord(x, "abcd");
        Check.feedAll(x, "abcd");
        x.pack(1);
        // Three of LENGTH 4 have 2 BITS: number 1.
        command(x, 0, 0, 4, 2);
        Check.feedAll(x, "ABCD");
        x.pack(2);
        // Number 0 as it is, not number 1 with CHANGE 2.
        command(x, 0, 0, 4, 1);
        Check.feedAll(x, "Abcd, ");
        x.pack(2);
        command(x, 0, 0, 4, 1 + 1 + (19 << 2));
        Check.feedAll(x, "xab, ");
        x.pack(2);
        command(x, 0, 0, 5, 1 + (23 << 1));
        Check.feedAll(x, "xab,");
        x.pack(2);
        Check.due("no word makes it", x.command(0, 0), 4);
    }

    private static void keptCommands() {
        BrotliWords x = new BrotliWords();
        Check.feedAll(x, "keptkept");
        x.pack(2);
        x.pass();
        x.open();
        x.clear();
        x.wipe();
        Check.due("commands stay", x.count(4), 1);
        command(x, 0, 4, 4, 4, 8 * 4 + 2);
        x.pack(0);
        Check.due("level 0 has none", x.count(4), 0);
        Check.due("none", x.command(0, 0), BrotliWords.BAD);
    }

    /** Bytes as often as 1, 2, 4 .. make LENGTHS of which the marks would be longer than 5. */
    private static void steepMarks() {
        StringBuilder b = new StringBuilder();
        int[] often = {1, 1, 2, 4, 8, 16, 32, 64, 128, 200};
        for (int k = 0; k < often.length; k++) {
            for (int i = 0; i < often[k]; i++) {
                b.append((char) (16 * k + 7));
                b.append((char) (150 + (i * 7 + k * 3) % 90));
            }
        }
        SlowPack due = new SlowPack(new SlowWords(), b.toString(), 1);
        BrotliWords x = new BrotliWords();
        Check.feedAll(x, b.toString());
        x.pack(1);
        same("steep", x, due.bits);
    }
}
