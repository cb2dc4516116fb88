/** Promises 1 to 6, 13 and 14: each boundary that their sentences name, one by one. */
public final class TapeEdgesTest {
    private static final int BAD = BrotliWords.BAD, FULL = BrotliWords.FULL;
    private static final int MIN = Integer.MIN_VALUE, MAX = Integer.MAX_VALUE;

    public static void main(String[] args) {
        newObjectHasNothing();
        objectsAreApart();
        feedUpTo2400();
        feedBehindBitsOfAByte();
        feedTakesEveryNumber();
        endOfFewerThanTwenty();
        endTakes0To20();
        endCountsAByteThatBitsBegan();
        bitsTakes1To32();
        bitsTakesTheLowestOnes();
        bitsUpTo19200();
        bitsThatAreBadOnAFullTape();
        bitsFindZerosWhereBytesStood();
        bitsBehindEachCallThatWasNotRefused();
        bitsBehindCallsThatChangedNothing();
        bitsBehindEachCallThatWasRefused();
        bitsBehindCallsThatAreNotNamed();
        spoilTakesBytesThatAreThere();
        spoilTakes1To255();
        spoilOfZerosBehindTheLastBit();
        wipeOfNothingAndOfAll();
        passOfNothing();
        passUpTo2400();
        outTakesBytesThatAreThere();
        Check.finish();
    }

    private static BrotliWords ofSize(int size) {
        BrotliWords x = new BrotliWords();
        int whole = (size + 19) / 20;
        for (int i = 0; i < whole; i++) {
            x.feed(-1, -1, -1, -1, -1);
        }
        if (size % 20 != 0) {
            x.end(size % 20);
        }
        Check.due("a tape of " + size, x.count(1), size);
        return x;
    }

    private static void newObjectHasNothing() {
        Check.due("end(0)", new BrotliWords().end(0), BAD);
        Check.due("end(20)", new BrotliWords().end(20), BAD);
        Check.due("spoil(0, 1)", new BrotliWords().spoil(0, 1), BAD);
        Check.due("wipe()", new BrotliWords().wipe(), 0);
        Check.due("word()", new BrotliWords().word(), BAD);
        Check.due("clear()", new BrotliWords().clear(), 0);
        Check.due("digest()", new BrotliWords().digest(), 40293);
        for (int length = 4; length <= 10; length++) {
            Check.due("changed()", new BrotliWords().changed(length, 0, 0, -1), BAD);
        }
        Check.due("open()", new BrotliWords().open(), -11);
        Check.due("pass()", new BrotliWords().pass(), 0);
        Check.due("out(0)", new BrotliWords().out(0), BAD);
        Check.due("read()", new BrotliWords().read(), 0);
        Check.due("part(0, 0)", new BrotliWords().part(0, 0), BAD);
        Check.due("map(0, 0)", new BrotliWords().map(0, 0), BAD);
        Check.due("map(1, 0)", new BrotliWords().map(1, 0), BAD);
        for (int sort = 0; sort < 3; sort++) {
            Check.due("length()", new BrotliWords().length(sort, 0, 0), BAD);
        }
        Check.due("command(0, 0)", new BrotliWords().command(0, 0), BAD);
        for (int what = 0; what < 5; what++) {
            Check.due("count(" + what + ")", new BrotliWords().count(what), 0);
        }
    }

    /** What one object has another one does not have. */
    private static void objectsAreApart() {
        BrotliWords x = new BrotliWords();
        Check.addWord(x, "mine");
        Check.feedAll(x, "mine and mine");
        x.pack(2);
        x.pass();
        x.open();
        x.bits(1, 3);
        BrotliWords y = new BrotliWords();
        for (int what = 0; what < 5; what++) {
            Check.due("count(" + what + ") of another one", y.count(what), 0);
        }
        Check.due("read() of another one", y.read(), 0);
        Check.due("digest() of another one", y.digest(), 40293);
        Check.due("bits() of another one", y.bits(1, 1), 1);
        Check.due("count(0) of the first one", x.count(0), 1);
        Check.due("bits() of the first one", x.bits(1, 1), 4);
    }

    private static void feedUpTo2400() {
        Check.due("feed on 2,379", ofSize(2379).feed(1, 2, 3, 4, 5), 2399);
        Check.due("feed on 2,380", ofSize(2380).feed(1, 2, 3, 4, 5), 2400);
        for (int size = 2381; size <= 2400; size++) {
            BrotliWords x = ofSize(size);
            Check.due("feed on " + size, x.feed(1, 2, 3, 4, 5), FULL);
            Check.due("the tape stays", x.count(1), size);
            Check.due("its last byte stays", x.spoil(size - 1, 1), 254);
        }
    }

    private static void feedBehindBitsOfAByte() {
        BrotliWords x = ofSize(2379);
        x.bits(1, 1);
        Check.due("feed on 2,379 and a bit", x.feed(0x01020304, 2, 3, 4, 5), 2400);
        Check.due("the byte that was begun", x.spoil(2379, 128), 129);
        Check.due("the byte behind it", x.spoil(2380, 128), 129);
        x = ofSize(2380);
        x.bits(1, 1);
        Check.due("feed on 2,380 and a bit", x.feed(1, 2, 3, 4, 5), FULL);
        Check.due("the bits go on", x.bits(1, 1), 8 * 2380 + 2);
    }

    private static void feedTakesEveryNumber() {
        BrotliWords x = new BrotliWords();
        Check.due("feed", x.feed(MIN, MAX, -1, 0, 0x00ff7f80), 20);
        int[] due = {128, 0, 0, 0, 127, 255, 255, 255, 255, 255, 255, 255, 0, 0, 0, 0, 0, 255, 127, 128};
        for (int i = 0; i < 20; i++) {
            Check.due("byte " + i, x.spoil(i, 1), due[i] ^ 1);
        }
    }

    private static void endOfFewerThanTwenty() {
        for (int size : new int[] {0, 1, 18, 19}) {
            BrotliWords x = ofSize(size);
            for (int n : new int[] {0, 1, size, 19, 20}) {
                Check.due("end(" + n + ") of " + size, x.end(n), BAD);
            }
            Check.due("the tape stays", x.count(1), size);
        }
        for (int n = 0; n <= 20; n++) {
            Check.due("end(" + n + ") of 20", ofSize(20).end(n), n);
            Check.due("end(" + n + ") of 21", ofSize(21).end(n), n + 1);
            Check.due("end(" + n + ") of 2,400", ofSize(2400).end(n), 2380 + n);
        }
    }

    private static void endTakes0To20() {
        for (int n : new int[] {-1, 21, -20, 32, MIN, MAX}) {
            BrotliWords x = ofSize(40);
            Check.due("end(" + n + ")", x.end(n), BAD);
            Check.due("the tape stays", x.count(1), 40);
        }
        BrotliWords x = new BrotliWords();
        x.feed(0x01020304, 0x05060708, 0x090a0b0c, 0x0d0e0f10, 0x11121314);
        Check.due("end(7)", x.end(7), 7);
        for (int i = 0; i < 7; i++) {
            Check.due("the first ones stay", x.spoil(i, 128), 128 + i + 1);
        }
        Check.due("none behind", x.spoil(7, 1), BAD);
    }

    private static void endCountsAByteThatBitsBegan() {
        BrotliWords x = ofSize(19);
        x.bits(1, 1);
        Check.due("end(20) of 19 and a bit", x.end(20), 20);
        Check.due("end(19) of these", x.end(19), 19);
        Check.due("the last one is whole", x.spoil(18, 1), 254);
    }

    private static void bitsTakes1To32() {
        for (int n : new int[] {0, -1, 33, 64, MIN, MAX}) {
            BrotliWords x = new BrotliWords();
            Check.due("bits(-1, " + n + ")", x.bits(-1, n), BAD);
            Check.due("the tape stays", x.count(1), 0);
            x.bits(1, 1);
            Check.due("bits(-1, " + n + ") behind a bit", x.bits(-1, n), BAD);
            Check.due("bits(0, 1) behind that", x.bits(0, 1), 2);
            Check.due("its byte", x.spoil(0, 128), 129);
        }
        for (int n = 1; n <= 32; n++) {
            BrotliWords x = new BrotliWords();
            Check.due("bits(-1, " + n + ")", x.bits(-1, n), n);
            Check.due("bytes of " + n, x.count(1), (n + 7) / 8);
            int last = n % 8 == 0 ? 255 : (1 << n % 8) - 1;
            Check.due("the last byte of " + n, x.spoil((n - 1) / 8, 255), last ^ 255);
        }
    }

    /** A number's higher bits do not come; its lowest one is first. */
    private static void bitsTakesTheLowestOnes() {
        BrotliWords x = new BrotliWords();
        Check.due("bits(0xfffffff2, 3)", x.bits(0xfffffff2, 3), 3);
        Check.due("bits(MIN, 31)", x.bits(MIN, 31), 34);
        Check.due("bits(MIN, 32)", x.bits(MIN, 32), 66);
        int[] due = {2, 0, 0, 0, 0, 0, 0, 0, 2};
        for (int i = 0; i < due.length; i++) {
            Check.due("byte " + i, x.spoil(i, 128), due[i] ^ 128);
        }
    }

    private static void bitsUpTo19200() {
        for (int n = 1; n <= 32; n++) {
            // The TAPE has n bits less than all.
            BrotliWords x = ofSize(2400 - (n + 7) / 8);
            if (n % 8 != 0) {
                Check.due("up to a byte's bit", x.bits(0, 8 - n % 8), 19200 - n);
            }
            if (n < 32) {
                Check.due("bits(-1, " + (n + 1) + ") on 19,200 less " + n, x.bits(-1, n + 1), FULL);
            }
            Check.due("bits(-1, 32) on 19,200 less " + n, x.bits(-1, 32), n == 32 ? 19200 : FULL);
            if (n < 32) {
                Check.due("bits(-1, " + n + ") on 19,200 less " + n, x.bits(-1, n), 19200);
            }
            Check.due("all bytes", x.count(1), 2400);
            Check.due("bits(0, 1) on 19,200", x.bits(0, 1), FULL);
            int last = n >= 8 ? 255 : 256 - (1 << 8 - n);
            Check.due("the last byte", x.spoil(2399, 255), last ^ 255);
        }
    }

    private static void bitsThatAreBadOnAFullTape() {
        BrotliWords x = ofSize(2400);
        Check.due("bits(1, 0)", x.bits(1, 0), BAD);
        Check.due("bits(1, 33)", x.bits(1, 33), BAD);
        Check.due("bits(1, MAX)", x.bits(1, MAX), BAD);
        Check.due("bits(1, 1)", x.bits(1, 1), FULL);
    }

    private static void bitsFindZerosWhereBytesStood() {
        BrotliWords x = ofSize(40);
        x.end(0);
        x.bits(1, 1);
        Check.due("a byte behind end()", x.spoil(20, 128), 129);
        x.wipe();
        x.bits(2, 3);
        Check.due("a byte behind wipe()", x.spoil(0, 128), 130);
        x = ofSize(4);
        x.word();
        x.bits(4, 3);
        Check.due("a byte behind word()", x.spoil(0, 128), 132);
        x = ofSize(4);
        x.pack(0);
        x.bits(8, 4);
        Check.due("a byte behind pack()", x.spoil(0, 128), 136);
        x = ofSize(4);
        x.open();
        x.bits(16, 5);
        Check.due("a byte behind open()", x.spoil(0, 128), 144);
        x = ofSize(40);
        x.pass();
        x.bits(1, 2);
        Check.due("a byte behind pass()", x.spoil(0, 128), 129);
    }

    private static void bitsBehindEachCallThatWasNotRefused() {
        BrotliWords x = ofSize(20);
        x.bits(1, 1);
        x.feed(0, 0, 0, 0, 0);
        Check.due("behind feed()", x.bits(1, 1), 8 * 41 + 1);
        x.end(19);
        Check.due("behind end()", x.bits(1, 1), 8 * 41 + 1);
        x.spoil(0, 1);
        Check.due("behind spoil()", x.bits(1, 1), 8 * 42 + 1);
        x.wipe();
        Check.due("behind wipe()", x.bits(1, 26), 26);
        x.word();
        Check.due("behind word()", x.bits(1, 1), 1);
        x.pack(1);
        Check.due("behind pack()", x.bits(1, 1), 1);
        int size = x.pass();
        Check.due("behind pass()", x.bits(1, 1), 8 * size + 1);
        x.open();
        Check.due("behind open()", x.bits(1, 1), 1);
    }

    private static void bitsBehindCallsThatChangedNothing() {
        BrotliWords x = ofSize(20);
        x.bits(1, 1);
        Check.due("end(20)", x.end(20), 21);
        Check.due("behind an end() that changed nothing", x.bits(1, 1), 8 * 21 + 1);
        x.spoil(0, 7);
        x.spoil(0, 7);
        Check.due("behind two spoil()", x.bits(1, 1), 8 * 22 + 1);
        x.wipe();
        // OUT is what the TAPE is: an EMPTY PART behind DIGEST.
        x.pack(0);
        x.bits(40293, 16);
        x.bits(6, 3);
        Check.due("pass()", x.pass(), 3);
        Check.due("behind a pass() that changed nothing", x.bits(1, 1), 25);
    }

    private static void bitsBehindEachCallThatWasRefused() {
        BrotliWords x = new BrotliWords();
        x.bits(1, 1);
        x.end(0);
        Check.due("behind end() of fewer than twenty", x.bits(1, 1), 2);
        x.spoil(1, 1);
        Check.due("behind spoil() of no byte", x.bits(1, 1), 3);
        x.spoil(0, 256);
        Check.due("behind spoil() by no mask", x.bits(1, 1), 4);
        x.word();
        Check.due("behind word() of no LENGTH", x.bits(1, 1), 5);
        x.pack(-1);
        Check.due("behind pack() by no LEVEL", x.bits(1, 1), 6);
        x.bits(1, 33);
        Check.due("behind bits() of no number", x.bits(1, 1), 7);
        x = ofSize(2381);
        x.bits(1, 1);
        x.feed(0, 0, 0, 0, 0);
        Check.due("behind feed() above 2,400", x.bits(1, 1), 8 * 2381 + 2);
        x.end(21);
        Check.due("behind end(21)", x.bits(1, 1), 8 * 2381 + 3);
        x.pack(0);
        Check.due("behind pack() above 2,000", x.bits(1, 1), 8 * 2381 + 4);
        x = new BrotliWords();
        for (int i = 0; i < 32; i++) {
            x.bits(i, 32);
            x.word();
        }
        x.bits(1, 25);
        Check.due("word() of a full LENGTH", x.word(), FULL);
        Check.due("behind it", x.bits(1, 1), 26);
        x = opened(2401);
        x.bits(1, 1);
        Check.due("pass() above 2,400", x.pass(), FULL);
        Check.due("behind it", x.bits(1, 1), 2);
    }

    private static void bitsBehindCallsThatAreNotNamed() {
        BrotliWords x = new BrotliWords();
        x.bits(1, 1);
        x.clear();
        Check.due("behind clear()", x.bits(1, 1), 2);
        x.digest();
        x.changed(4, 0, 0, 0);
        x.out(0);
        x.read();
        x.part(0, 0);
        x.ring(0);
        Check.due("behind questions", x.bits(1, 1), 3);
        x.map(0, 0);
        x.length(0, 0, 0);
        x.command(0, 0);
        x.count(1);
        Check.due("behind more of them", x.bits(1, 1), 4);
        Check.due("its byte", x.spoil(0, 128), 128 + 15);
    }

    private static void spoilTakesBytesThatAreThere() {
        for (int i : new int[] {-1, 20, 21, MIN, MAX}) {
            Check.due("spoil(" + i + ", 1) of 20", ofSize(20).spoil(i, 1), BAD);
        }
        Check.due("spoil(0, 1) of 20", ofSize(20).spoil(0, 1), 254);
        Check.due("spoil(19, 1) of 20", ofSize(20).spoil(19, 1), 254);
        Check.due("spoil(2399, 1) of all", ofSize(2400).spoil(2399, 1), 254);
        Check.due("spoil(2400, 1) of all", ofSize(2400).spoil(2400, 1), BAD);
        BrotliWords x = ofSize(20);
        x.end(5);
        Check.due("a byte that went", x.spoil(5, 1), BAD);
        x.wipe();
        Check.due("a byte of nothing", x.spoil(0, 1), BAD);
    }

    private static void spoilTakes1To255() {
        for (int mask : new int[] {0, -1, 256, 257, 511, MIN, MAX}) {
            BrotliWords x = ofSize(20);
            Check.due("spoil(0, " + mask + ")", x.spoil(0, mask), BAD);
            Check.due("the byte stays", x.spoil(0, 1), 254);
        }
        for (int mask = 1; mask <= 255; mask++) {
            BrotliWords x = new BrotliWords();
            x.bits(0xa5, 8);
            Check.due("spoil(0, " + mask + ")", x.spoil(0, mask), 0xa5 ^ mask);
            Check.due("and back", x.spoil(0, mask), 0xa5);
        }
    }

    private static void spoilOfZerosBehindTheLastBit() {
        BrotliWords x = new BrotliWords();
        x.bits(1, 1);
        Check.due("spoil(0, 254)", x.spoil(0, 254), 255);
        Check.due("the next bit begins a byte", x.bits(1, 1), 9);
        Check.due("the byte before stays", x.spoil(0, 1), 254);
    }

    private static void wipeOfNothingAndOfAll() {
        Check.due("wipe() of nothing", ofSize(0).wipe(), 0);
        Check.due("wipe() of all", ofSize(2400).wipe(), 2400);
        BrotliWords x = new BrotliWords();
        x.bits(0, 1);
        Check.due("wipe() of a bit", x.wipe(), 1);
        Check.due("wipe() again", x.wipe(), 0);
        x.bits(0, 9);
        Check.due("wipe() of nine bits", x.wipe(), 2);
        Check.due("the tape is empty", x.count(1), 0);
    }

    private static void passOfNothing() {
        BrotliWords x = ofSize(20);
        Check.due("pass() of nothing", x.pass(), 0);
        Check.due("the tape went", x.count(1), 0);
        Check.feedAll(x, "no row");
        Check.due("open() that breaks a RULE", x.open(), -12);
        Check.feedAll(x, "something");
        Check.due("pass() behind it", x.pass(), 0);
        Check.due("the tape went", x.count(1), 0);
    }

    /** An object whose OUT has so many bytes 'z'. */
    private static BrotliWords opened(int size) {
        BrotliWords x = new BrotliWords();
        Bits row = TestRows.manyZ(TestRows.start(), size).plain("11");
        Check.feedAll(x, row.toWholeByte().bytes());
        Check.due("open to " + size, x.open(), size);
        return x;
    }

    private static void passUpTo2400() {
        for (int size : new int[] {2399, 2400}) {
            BrotliWords x = opened(size);
            Check.due("pass() of " + size, x.pass(), size);
            Check.due("count(1)", x.count(1), size);
            Check.due("OUT stays", x.count(2), size);
            Check.due("pass() again", x.pass(), size);
            Check.due("the last byte", x.spoil(size - 1, 1), 'z' ^ 1);
            Check.due("bits behind it", x.bits(1, 8), size == 2400 ? FULL : 19200);
        }
        for (int size : new int[] {2401, 2999, 3000}) {
            BrotliWords x = opened(size);
            x.bits(0x55, 7);
            Check.due("pass() of " + size, x.pass(), FULL);
            Check.due("the tape stays", x.count(1), 1);
            Check.due("OUT stays", x.count(2), size);
            Check.due("the byte stays", x.spoil(0, 128), 0xd5);
        }
    }

    private static void outTakesBytesThatAreThere() {
        BrotliWords x = new BrotliWords();
        Check.feedAll(x, "out");
        Check.due("pack(0)", x.pack(0), 9);
        for (int i : new int[] {-1, 9, 10, MIN, MAX}) {
            Check.due("out(" + i + ") of 9", x.out(i), BAD);
        }
        Check.due("out(0)", x.out(0), 40293 & 255);
        Check.due("out(8)", x.out(8), 3);
        x.pass();
        x.open();
        Check.due("out(2) of 3", x.out(2), 't');
        Check.due("out(3) of 3", x.out(3), BAD);
        x = opened(3000);
        Check.due("out(2999) of 3,000", x.out(2999), 'z');
        Check.due("out(3000) of 3,000", x.out(3000), BAD);
        Check.feedAll(x, "no row");
        x.open();
        Check.due("out(0) behind a broken RULE", x.out(0), BAD);
    }
}
