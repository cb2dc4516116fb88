/** Promises 7 to 10 and section 1 of the document: each boundary that their sentences name, one by one. */
public final class WordsEdgesTest {
    private static final int BAD = BrotliWords.BAD, FULL = BrotliWords.FULL;
    private static final int MIN = Integer.MIN_VALUE, MAX = Integer.MAX_VALUE;

    public static void main(String[] args) {
        wordTakes4To10();
        wordOfAByteThatBitsBegan();
        wordThatIsRefusedLeavesTheTape();
        thirtyTwoOfEachLength();
        likeWordsAreTwo();
        clearOfNothingAndOfAll();
        clearLeavesTheRest();
        digestHasSixteenBits();
        digestByHand();
        digestTellsOrderAndLength();
        changedTakesWordsThatAreThere();
        changedTakes0To23();
        changedTakesBytesThatAreThere();
        onlyAToZAreRaised();
        shortestAndLongestChanged();
        bitsOfALength();
        Check.finish();
    }

    private static String ofSize(int size) {
        return "abcdefghijklmnopqrstuvwxyz".repeat(100).substring(0, size);
    }

    private static void wordTakes4To10() {
        for (int size : new int[] {0, 1, 2, 3, 11, 12, 20, 2400}) {
            BrotliWords x = new BrotliWords();
            Check.feedAll(x, ofSize(size));
            Check.due("word() of " + size, x.word(), BAD);
            Check.due("the tape stays", x.count(1), size);
            Check.due("no word", x.count(0), 0);
        }
        for (int size = 4; size <= 10; size++) {
            BrotliWords x = new BrotliWords();
            Check.feedAll(x, ofSize(size));
            Check.due("word() of " + size, x.word(), 1);
            Check.due("the tape is empty", x.count(1), 0);
            Check.due("a word", x.count(0), 1);
            Check.due("the last byte", x.changed(size, 0, 0, size - 1), 'a' + size - 1);
            Check.due("word() again", x.word(), BAD);
        }
    }

    private static void wordOfAByteThatBitsBegan() {
        BrotliWords x = new BrotliWords();
        x.bits(-1, 24);
        Check.due("word() of 24 bits", x.word(), BAD);
        x.bits(1, 1);
        Check.due("word() of 25 bits", x.word(), 1);
        Check.due("its last byte", x.changed(4, 0, 0, 3), 1);
        x.bits(-1, 32);
        x.bits(-1, 32);
        x.bits(-1, 16);
        x.bits(0, 1);
        Check.due("word() of 81 bits", x.word(), BAD);
    }

    private static void wordThatIsRefusedLeavesTheTape() {
        BrotliWords x = new BrotliWords();
        Check.feedAll(x, "abc");
        x.word();
        Check.feedAll(x, "d");
        Check.due("word() of the byte more", x.word(), 1);
        for (int i = 0; i < 4; i++) {
            Check.due("its byte " + i, x.changed(4, 0, 0, i), 'a' + i);
        }
    }

    private static void thirtyTwoOfEachLength() {
        for (int length = 4; length <= 10; length++) {
            BrotliWords x = new BrotliWords();
            for (int i = 1; i <= 32; i++) {
                Check.due("word " + i + " of " + length, Check.addWord(x, (char) (64 + i) + ofSize(length - 1)), i);
            }
            Check.due("one more of " + length, Check.addWord(x, "!" + ofSize(length - 1)), FULL);
            Check.due("the tape stays", x.count(1), length);
            Check.due("count(0)", x.count(0), 32);
            Check.due("none of that number", x.changed(length, 32, 0, 0), BAD);
            Check.due("the last one", x.changed(length, 31, 0, 0), 96);
            int other = length == 10 ? 4 : length + 1;
            Check.due("none of another LENGTH", x.changed(other, 0, 0, 0), BAD);
            Check.due("word() once more", x.word(), FULL);
            x.clear();
            Check.due("word() behind clear()", x.word(), 1);
            Check.due("it is what was on the tape", x.changed(length, 0, 0, 0), '!');
        }
    }

    private static void likeWordsAreTwo() {
        BrotliWords x = new BrotliWords();
        Check.due("a word", Check.addWord(x, "like"), 1);
        Check.due("a like one", Check.addWord(x, "like"), 2);
        Check.due("count(0)", x.count(0), 2);
        Check.due("byte of the second", x.changed(4, 1, 2, 3), 'E');
    }

    private static BrotliWords all224() {
        BrotliWords x = new BrotliWords();
        for (int length = 4; length <= 10; length++) {
            for (int i = 0; i < 32; i++) {
                for (int k = 0; k < length; k += 4) {
                    x.bits(-1 - i, 8 * Math.min(4, length - k));
                }
                x.word();
            }
        }
        return x;
    }

    private static void clearOfNothingAndOfAll() {
        Check.due("clear() of nothing", new BrotliWords().clear(), 0);
        BrotliWords x = new BrotliWords();
        for (int i = 0; i < 32; i++) {
            x.bits(i, 32);
            x.word();
            x.bits(i, 32);
            x.bits(i, 32);
            x.word();
        }
        Check.due("clear() of 64", x.clear(), 64);
        Check.due("count(0)", x.count(0), 0);
        Check.due("clear() again", x.clear(), 0);
        Check.due("digest()", x.digest(), 40293);
        // The 224 words take more than 512 calls with the questions behind them, so only these are asked.
        x = all224();
        Check.due("count(0) of all", x.count(0), 224);
    }

    private static void clearLeavesTheRest() {
        BrotliWords x = new BrotliWords();
        Check.addWord(x, "word");
        Check.feedAll(x, "a word");
        x.pack(1);
        int size = x.count(2);
        int commands = x.count(4);
        Check.feedAll(x, "tape");
        Check.due("clear()", x.clear(), 1);
        Check.due("the tape stays", x.count(1), 4);
        Check.due("OUT stays", x.count(2), size);
        Check.due("the commands stay", x.count(4), commands);
        Check.due("no word", x.changed(4, 0, 0, 0), BAD);
    }

    /** Its lowest 16 bits: never below 0, whatever the bytes are. */
    private static void digestHasSixteenBits() {
        BrotliWords x = new BrotliWords();
        SlowWords slow = new SlowWords();
        for (int i = 0; i < 32; i++) {
            String word = "" + (char) 255 + (char) (255 - i) + (char) 255 + (char) 254;
            slow.add(word);
            Check.addWord(x, word);
            int digest = x.digest();
            Check.due("digest " + i, digest, slow.digest());
            Check.due("digest " + i + " of 16 bits", digest >> 16, 0);
        }
        BrotliWords all = all224();
        SlowWords same = new SlowWords();
        for (int length = 4; length <= 10; length++) {
            for (int i = 0; i < 32; i++) {
                StringBuilder b = new StringBuilder();
                for (int k = 0; k < length; k++) {
                    b.append((char) (-1 - i >> k % 4 * 8 & 255));
                }
                same.add(b.toString());
            }
        }
        Check.due("digest of all", all.digest(), same.digest());
    }

    /** 5,381 through 4 .. 10 without words; one word of four bytes 0. */
    private static void digestByHand() {
        int h = 5381;
        for (int length = 4; length <= 10; length++) {
            h = 33 * h % 65536;
        }
        Check.due("digest of none", new BrotliWords().digest(), h);
        h = 33 * 5381 % 65536 ^ 1;
        for (int k = 0; k < 4 + 6; k++) {
            h = 33 * h % 65536;
        }
        BrotliWords x = new BrotliWords();
        x.bits(0, 32);
        x.word();
        Check.due("digest of a word of 0s", x.digest(), h);
    }

    private static void digestTellsOrderAndLength() {
        BrotliWords x = new BrotliWords();
        Check.addWord(x, "ones");
        Check.addWord(x, "twos");
        BrotliWords y = new BrotliWords();
        Check.addWord(y, "twos");
        Check.addWord(y, "ones");
        Check.due("another order", x.digest() == y.digest() ? 1 : 0, 0);
        int before = x.digest();
        Check.feedAll(x, "the tape is not asked");
        Check.due("a tape more", x.digest(), before);
        BrotliWords z = new BrotliWords();
        Check.addWord(z, "longer one");
        Check.addWord(z, "ones");
        Check.addWord(z, "twos");
        Check.addWord(x = new BrotliWords(), "ones");
        Check.addWord(x, "twos");
        Check.addWord(x, "longer one");
        Check.due("the order of LENGTHS is theirs", x.digest(), z.digest());
    }

    private static BrotliWords two() {
        BrotliWords x = new BrotliWords();
        Check.addWord(x, "four");
        Check.addWord(x, "five");
        Check.addWord(x, "ten letter");
        return x;
    }

    private static void changedTakesWordsThatAreThere() {
        BrotliWords x = two();
        for (int length : new int[] {3, 5, 9, 11, 0, -4, MIN, MAX}) {
            Check.due("LENGTH " + length, x.changed(length, 0, 0, 0), BAD);
            Check.due("LENGTH " + length + ", how many", x.changed(length, 0, 0, -1), BAD);
        }
        for (int number : new int[] {-1, 2, 3, MIN, MAX}) {
            Check.due("number " + number, x.changed(4, number, 0, 0), BAD);
            Check.due("number " + number + ", how many", x.changed(4, number, 0, -1), BAD);
        }
        Check.due("the first", x.changed(4, 0, 0, 0), 'f');
        Check.due("the last", x.changed(4, 1, 0, 1), 'i');
        Check.due("of ten", x.changed(10, 0, 0, 9), 'r');
        Check.due("none behind it", x.changed(10, 1, 0, 0), BAD);
    }

    private static void changedTakes0To23() {
        BrotliWords x = two();
        for (int change : new int[] {-1, 24, 25, -24, MIN, MAX}) {
            Check.due("CHANGE " + change, x.changed(4, 0, change, 0), BAD);
            Check.due("CHANGE " + change + ", how many", x.changed(4, 0, change, -1), BAD);
        }
        Check.due("CHANGE 0", x.changed(4, 0, 0, -1), 4);
        Check.due("CHANGE 23", x.changed(4, 0, 23, -1), 4);
    }

    private static void changedTakesBytesThatAreThere() {
        BrotliWords x = two();
        int[] size = {4, 4, 4, 3, 3, 2, 5, 5, 5, 4, 4, 3, 5, 5, 5, 4, 4, 3, 6, 6, 6, 5, 5, 4};
        for (int change = 0; change < 24; change++) {
            for (int length : new int[] {4, 10}) {
                int due = size[change] + length - 4;
                Check.due("how many, CHANGE " + change, x.changed(length, 0, change, -1), due);
                Check.due("behind, CHANGE " + change, x.changed(length, 0, change, due), BAD);
                Check.due("the last, CHANGE " + change, x.changed(length, 0, change, due - 1) >= 0 ? 1 : 0, 1);
            }
        }
        for (int i : new int[] {-2, -3, 4, MIN, MAX}) {
            Check.due("byte " + i, x.changed(4, 0, 0, i), BAD);
        }
    }

    /** Bytes around a, z, A, Z and above 127, raised as the first one and as all. */
    private static void onlyAToZAreRaised() {
        for (int b = 0; b < 256; b++) {
            BrotliWords x = new BrotliWords();
            x.bits(b << 24 | b << 16 | b << 8 | b, 32);
            x.word();
            int raised = b >= 97 && b <= 122 ? b - 32 : b;
            Check.due("first of " + b, x.changed(4, 0, 1, 0), raised);
            Check.due("second of " + b, x.changed(4, 0, 1, 1), b);
            Check.due("last of " + b, x.changed(4, 0, 1, 3), b);
            for (int i = 0; i < 4; i++) {
                Check.due("all of " + b, x.changed(4, 0, 2, i), raised);
                Check.due("none of " + b, x.changed(4, 0, 0, i), b);
            }
            Check.due("without the first: " + b, x.changed(4, 0, 3, 0), b);
            Check.due("behind a blank: " + b, x.changed(4, 0, 13, 1), raised);
        }
    }

    private static void shortestAndLongestChanged() {
        BrotliWords x = two();
        String[] due = {"fo", "fo ", " fo", "fo, "};
        for (int around = 0; around < 4; around++) {
            for (int i = 0; i < due[around].length(); i++) {
                Check.due("shortest " + around, x.changed(4, 0, 5 + 6 * around, i), due[around].charAt(i));
            }
        }
        String longest = "TEN LETTER, ";
        Check.due("longest", x.changed(10, 0, 20, -1), 12);
        for (int i = 0; i < 12; i++) {
            Check.due("longest", x.changed(10, 0, 20, i), longest.charAt(i));
        }
        Check.due("behind the longest", x.changed(10, 0, 20, 12), BAD);
    }

    /** Word n - 1 is y = n - 1; from n on there is none, up to 2^b, which is word 0 with CHANGE 1. */
    private static void bitsOfALength() {
        for (int many = 1; many <= 32; many++) {
            int power = 1;
            while (power < many) {
                power *= 2;
            }
            int[] ys = {0, many - 1, many, power - 1, power, power + many - 1, power + many, 23 * power + many - 1,
                24 * power - 1, 24 * power, 24 * power + many - 1};
            for (int y : ys) {
                BrotliWords x = new BrotliWords();
                for (int i = 0; i < many; i++) {
                    Check.addWord(x, "w" + (char) (97 + i / 10) + (char) (97 + i % 10) + "d");
                }
                int number = y % power;
                int change = y / power;
                int due = number >= many ? -20 : change > 23 ? -21 : 0;
                Bits row = TestRows.lastHead(TestRows.start(x), due < 0 ? 9 : SlowWords.changed("word", change).length());
                TestRows.codes(row, TestRows.command(0, 2), TestRows.farSign(y + 1)).number(y + 4, TestRows.farBits(y + 1));
                String name = many + " words, y " + y;
                if (due < 0) {
                    TestRows.opened(x, name, row, due, row.size());
                    continue;
                }
                String word = "w" + (char) (97 + number / 10) + (char) (97 + number % 10) + "d";
                TestRows.opened(x, name, row, SlowWords.changed(word, change));
            }
        }
    }
}
