import java.util.ArrayList;
import java.util.List;
import java.util.Random;

/** Promises 1 to 6, 13, 14 and 21: the TAPE, its bits, and OUT coming to it. */
public final class TapeTest {
    public static void main(String[] args) {
        newObject();
        feeding();
        ending();
        bitsByHand();
        bitsAfterOtherCalls();
        bitsAfterRefusals();
        fullOfBits();
        spoiling();
        passing();
        againstRows();
        Check.finish();
    }

    private static void newObject() {
        BrotliWords x = new BrotliWords();
        for (int what = 0; what < 5; what++) {
            Check.due("new count(" + what + ")", x.count(what), 0);
        }
        Check.due("count(-1)", x.count(-1), BrotliWords.BAD);
        Check.due("count(5)", x.count(5), BrotliWords.BAD);
        Check.due("new out(0)", x.out(0), BrotliWords.BAD);
        Check.due("new read()", x.read(), 0);
        Check.due("new part(0, 0)", x.part(0, 0), BrotliWords.BAD);
        Check.due("new map(0, 0)", x.map(0, 0), BrotliWords.BAD);
        Check.due("new map(1, 0)", x.map(1, 0), BrotliWords.BAD);
        Check.due("new length(0, 0, 0)", x.length(0, 0, 0), BrotliWords.BAD);
        Check.due("new command(0, 0)", x.command(0, 0), BrotliWords.BAD);
        Check.due("new wipe()", x.wipe(), 0);
        Check.due("new clear()", x.clear(), 0);
        Check.due("new pass()", x.pass(), 0);
        Check.due("new digest()", x.digest(), 40293);
        int[] ring = {4, 11, 15, 16};
        for (int i = 0; i < 4; i++) {
            Check.due("new ring(" + i + ")", x.ring(i), ring[i]);
        }
        Check.due("ring(-1)", x.ring(-1), BrotliWords.BAD);
        Check.due("ring(4)", x.ring(4), BrotliWords.BAD);
    }

    private static void feeding() {
        BrotliWords x = new BrotliWords();
        Check.due("feed", x.feed(0x01020304, -1, 0x80000000, 0, 0x7fffffff), 20);
        int[] due = {1, 2, 3, 4, 255, 255, 255, 255, 128, 0, 0, 0, 0, 0, 0, 0, 127, 255, 255, 255};
        for (int i = 0; i < 20; i++) {
            Check.due("byte " + i, x.spoil(i, 255), due[i] ^ 255);
        }
        for (int i = 2; i <= 120; i++) {
            Check.due("feed " + i, x.feed(i, i, i, i, i), 20 * i);
        }
        Check.due("feed above 2,400", x.feed(1, 1, 1, 1, 1), BrotliWords.FULL);
        Check.due("the tape stays", x.count(1), 2400);
        Check.due("one byte less", x.end(19), 2399);
        Check.due("feed above 2,400 again", x.feed(1, 1, 1, 1, 1), BrotliWords.FULL);
        Check.due("nineteen less", x.end(1), 2380);
        Check.due("feed up to 2,400", x.feed(1, 1, 1, 1, 1), 2400);
        Check.due("wipe", x.wipe(), 2400);
        Check.due("empty", x.count(1), 0);
    }

    private static void ending() {
        BrotliWords x = new BrotliWords();
        Check.due("end of an empty tape", x.end(0), BrotliWords.BAD);
        x.feed(0x61626364, 0x65666768, 0x696a6b6c, 0x6d6e6f70, 0x71727374);
        Check.due("end(-1)", x.end(-1), BrotliWords.BAD);
        Check.due("end(21)", x.end(21), BrotliWords.BAD);
        Check.due("end(20)", x.end(20), 20);
        Check.due("end(3)", x.end(3), 3);
        Check.due("end with fewer than twenty", x.end(2), BrotliWords.BAD);
        x.feed(0x41424344, 0, 0, 0, 0);
        Check.due("end(0) of 23", x.end(0), 3);
        Check.due("first byte", x.spoil(0, 1), 'a' ^ 1);
        Check.due("third byte", x.spoil(2, 1), 'c' ^ 1);
        Check.due("no fourth byte", x.spoil(3, 1), BrotliWords.BAD);
    }

    private static void bitsByHand() {
        BrotliWords x = new BrotliWords();
        Check.due("bits(5, 3)", x.bits(5, 3), 3);
        Check.due("a byte has begun", x.count(1), 1);
        Check.due("bits(-1, 1)", x.bits(-1, 1), 4);
        Check.due("bits(0, 0)", x.bits(0, 0), BrotliWords.BAD);
        Check.due("bits(0, 33)", x.bits(0, 33), BrotliWords.BAD);
        Check.due("bits(0, -1)", x.bits(0, -1), BrotliWords.BAD);
        Check.due("bits(0x80000001, 32)", x.bits(0x80000001, 32), 36);
        Check.due("five bytes", x.count(1), 5);
        int[] due = {0x1d, 0, 0, 0, 8};
        for (int i = 0; i < 5; i++) {
            Check.due("byte " + i, x.spoil(i, 1), due[i] ^ 1);
        }
    }

    /** Calls that were not refused send the next bits() to a whole byte, whatever they changed. */
    private static void bitsAfterOtherCalls() {
        BrotliWords x = new BrotliWords();
        x.bits(1, 1);
        x.feed(0, 0, 0, 0, 0);
        Check.due("bits behind feed", x.bits(1, 1), 169);
        x.end(20);
        Check.due("bits behind end(20)", x.bits(1, 1), 177);
        x.spoil(0, 1);
        Check.due("bits behind spoil", x.bits(1, 1), 185);
        x.wipe();
        Check.due("bits behind wipe", x.bits(1, 1), 1);
        x.wipe();
        x.bits(0, 29);
        Check.due("word of four bytes", x.word(), 1);
        Check.due("bits behind word", x.bits(1, 1), 1);
        Check.due("pack", x.pack(0), 7);
        Check.due("bits behind pack", x.bits(1, 1), 1);
        x.pass();
        Check.due("bits behind pass", x.bits(1, 1), 57);
        x.open();
        Check.due("bits behind open", x.bits(1, 1), 1);
        x.clear();
        x.digest();
        x.count(1);
        x.out(0);
        x.read();
        Check.due("bits behind calls that leave the tape", x.bits(1, 1), 2);
    }

    private static void bitsAfterRefusals() {
        BrotliWords x = new BrotliWords();
        x.bits(1, 3);
        x.end(0);
        x.spoil(1, 1);
        x.spoil(0, 0);
        x.spoil(0, 256);
        x.word();
        x.pack(3);
        x.pack(-1);
        x.bits(1, 0);
        Check.due("bits behind refused calls", x.bits(1, 1), 4);
        for (int i = 0; i < 119; i++) {
            x.feed(0, 0, 0, 0, 0);
        }
        x.bits(1, 3);
        x.feed(0, 0, 0, 0, 0);
        Check.due("bits behind a feed that was full", x.bits(1, 1), 8 * 2381 + 4);
        Check.due("pack of too many bytes", x.pack(1), BrotliWords.BAD);
        Check.due("bits behind that", x.bits(1, 1), 8 * 2381 + 5);
    }

    private static void fullOfBits() {
        BrotliWords x = new BrotliWords();
        for (int i = 0; i < 119; i++) {
            x.feed(0, 0, 0, 0, 0);
        }
        for (int i = 1; i <= 4; i++) {
            Check.due("bits", x.bits(-1, 32), 19040 + 32 * i);
        }
        Check.due("bits to 19,199", x.bits(-1, 31), 19199);
        Check.due("bits above 19,200", x.bits(-1, 2), BrotliWords.FULL);
        Check.due("bits of no number", x.bits(-1, 40), BrotliWords.BAD);
        Check.due("bits to 19,200", x.bits(1, 1), 19200);
        Check.due("one more", x.bits(1, 1), BrotliWords.FULL);
        Check.due("bytes", x.count(1), 2400);
    }

    private static void spoiling() {
        BrotliWords x = new BrotliWords();
        Check.due("spoil of nothing", x.spoil(0, 1), BrotliWords.BAD);
        x.bits(0xf0, 8);
        Check.due("spoil(0, 0)", x.spoil(0, 0), BrotliWords.BAD);
        Check.due("spoil(0, 256)", x.spoil(0, 256), BrotliWords.BAD);
        Check.due("spoil(-1, 1)", x.spoil(-1, 1), BrotliWords.BAD);
        Check.due("spoil(1, 1)", x.spoil(1, 1), BrotliWords.BAD);
        Check.due("spoil(0, 255)", x.spoil(0, 255), 0x0f);
        Check.due("spoil(0, 129)", x.spoil(0, 129), 0x8e);
    }

    private static void passing() {
        BrotliWords x = new BrotliWords();
        Check.feedAll(x, "passing");
        x.pack(0);
        Check.feedAll(x, "something else");
        Check.due("pass instead of what is there", x.pass(), 13);
        Check.due("count(1)", x.count(1), 13);
        Check.due("OUT stays", x.count(2), 13);
        Check.due("out(5)", x.out(5), 'p');
        Check.due("out(13)", x.out(13), BrotliWords.BAD);
        Check.due("out(-1)", x.out(-1), BrotliWords.BAD);
        Check.due("open", x.open(), 7);
        Check.due("opened", Check.outOf(x).equals("passing") ? 1 : 0, 1);
        // A row that opens to 2,401 bytes, which do not fit the TAPE.
        Bits row = new Bits().number(x.digest(), 16).plain("0");
        row.plain("0 00").number(0, 16).plain("1").text("z");
        TestRows.lastHead(row, 2400);
        TestRows.lone(row, 0, 8);
        TestRows.lone(row, 6 * 64 + 7, 10);
        TestRows.lone(row, 16, 6);
        // Cell 6: insert 0, copy code 23: 2,118 and 24 bits; sign 16: distance 1 and a bit.
        row.number(2400 - 2118, 24).number(0, 1);
        Check.feedAll(x, row.toWholeByte().bytes());
        Check.due("open to 2,401", x.open(), 2401);
        x.bits(3, 5);
        Check.due("pass of 2,401", x.pass(), BrotliWords.FULL);
        Check.due("the tape stays", x.count(1), 1);
        Check.due("and goes on", x.bits(0, 2), 7);
        Check.due("its byte", x.spoil(0, 1), 2);
    }

    /** Calls by chance, with the TAPE kept beside as a list of bytes and a number of bits. */
    private static void againstRows() {
        for (int seed = 1; seed <= 60; seed++) {
            Random random = new Random(seed);
            BrotliWords x = new BrotliWords();
            List<Integer> bytes = new ArrayList<>();
            int open = 0;
            for (int k = 0; k < 500; k++) {
                int way = random.nextInt(40);
                if (way < 14) {
                    int n = random.nextInt(36) - 1;
                    int v = random.nextInt();
                    int due = n < 1 || n > 32 ? -1 : 8 * bytes.size() - open + n > 19200 ? -3 : 0;
                    if (due == 0) {
                        for (int i = 0; i < n; i++) {
                            if (open == 0) {
                                bytes.add(0);
                                open = 8;
                            }
                            int last = bytes.size() - 1;
                            bytes.set(last, bytes.get(last) | (v >>> i & 1) << 8 - open);
                            open--;
                        }
                        due = 8 * bytes.size() - open;
                    }
                    Check.due("bits(" + v + ", " + n + ")", x.bits(v, n), due);
                } else if (way < 26) {
                    int[] v = random.ints(5).toArray();
                    int due = bytes.size() > 2380 ? -3 : bytes.size() + 20;
                    if (due > 0) {
                        for (int i = 0; i < 20; i++) {
                            bytes.add(v[i / 4] >>> 24 - i % 4 * 8 & 255);
                        }
                        open = 0;
                    }
                    Check.due("feed", x.feed(v[0], v[1], v[2], v[3], v[4]), due);
                } else if (way < 30) {
                    int n = random.nextInt(24) - 1;
                    int due = n < 0 || n > 20 || bytes.size() < 20 ? -1 : bytes.size() - 20 + n;
                    if (due >= 0) {
                        bytes.subList(due, bytes.size()).clear();
                        open = 0;
                    }
                    Check.due("end(" + n + ")", x.end(n), due);
                } else if (way < 39) {
                    int i = random.nextInt(bytes.size() + 3) - 1;
                    int mask = random.nextInt(258);
                    boolean bad = i < 0 || i >= bytes.size() || mask < 1 || mask > 255;
                    if (!bad) {
                        bytes.set(i, bytes.get(i) ^ mask);
                        open = 0;
                    }
                    Check.due("spoil(" + i + ", " + mask + ")", x.spoil(i, mask), bad ? -1 : bytes.get(i));
                } else if (random.nextInt(4) == 0) {
                    Check.due("wipe", x.wipe(), bytes.size());
                    bytes.clear();
                    open = 0;
                }
                Check.due("count(1)", x.count(1), bytes.size());
            }
        }
    }
}
