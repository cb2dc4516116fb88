import java.util.ArrayList;
import java.util.Arrays;
import java.util.Collections;
import java.util.List;
import java.util.Random;

/** Promises 11 and 20 and section 5 of the document: each boundary of PACKING, one by one. */
public final class PackEdgesTest {
    private static final int BAD = BrotliWords.BAD;
    private static final int MIN = Integer.MIN_VALUE, MAX = Integer.MAX_VALUE;

    public static void main(String[] args) {
        levelsAre0To2();
        upTo2000Bytes();
        oneByte();
        rawOfEachSize();
        copyOfFourAtLeast();
        threeLikeBytesWhateverTheFourth();
        copyOf200AtMost();
        nearestOfLikeCopies();
        copyGoesOn();
        wordOfFourAtLeast();
        wordAtTheEnd();
        wordsWithACommaOrABlank();
        leastLengthNumberChange();
        wordsThatWent();
        moreOfCopyAndWord();
        costsThatAreAlike();
        aWordThatCostsMore();
        fewerLiteralsOrFewerWords();
        literalsAtTheEnd();
        endBehindADistance();
        eachInsertCode();
        eachCopyCode();
        eachFarSign();
        leastSignOfTheRing();
        wordsLeaveTheRing();
        cellsWithSign0();
        noDistanceAtAll();
        oneToFourSigns();
        fiveSigns();
        zerosInMarks();
        loneMark();
        marksAbove5();
        marksAreHalved();
        all256Signs();
        commandsThatAreThere();
        fiveHundredCommands();
        packsOneBehindTheOther();
        whatPackLeaves();
        Check.finish();
    }

    private static BrotliWords packed(String text, int level, String... words) {
        BrotliWords x = new BrotliWords();
        for (String word : words) {
            Check.addWord(x, word);
        }
        Check.feedAll(x, text);
        Check.due("pack(" + level + ") of " + text.length() + " is not refused", Math.min(x.pack(level), 3), 3);
        return x;
    }

    private static void command(String name, BrotliWords x, int i, int... due) {
        for (int what = 0; what < due.length; what++) {
            Check.due(name + ": command(" + i + ", " + what + ")", x.command(i, what), due[what]);
        }
    }

    private static void same(String name, BrotliWords x, Bits row) {
        byte[] bytes = row.bytes();
        Check.due(name + ": size", x.count(2), bytes.length);
        for (int i = 0; i < bytes.length; i++) {
            Check.due(name + ": out(" + i + ")", x.out(i), bytes[i] & 255);
        }
    }

    private static void opensTo(String name, BrotliWords x, String text) {
        int size = x.count(2);
        Check.due(name + ": pass()", x.pass(), size);
        Check.due(name + ": open()", x.open(), text.length());
        Check.due(name + ": all bits", x.read(), 8 * size);
        Check.due(name + ": OUT", Check.outOf(x).equals(text) ? 1 : 0, 1);
    }

    /** Bytes in which no four stand twice. */
    private static String unlike(int size) {
        StringBuilder b = new StringBuilder();
        for (int i = 0; b.length() < size; i++) {
            b.append((char) (128 + i % 100)).append((char) (128 + i / 100)).append((char) (128 + (i * 7 + i / 100) % 120));
        }
        return b.substring(0, size);
    }

    private static void levelsAre0To2() {
        for (int level : new int[] {-1, 3, 4, MIN, MAX}) {
            BrotliWords x = new BrotliWords();
            Check.due("pack(" + level + ") of nothing", x.pack(level), BAD);
            Check.due("OUT is of nothing", x.count(2), 0);
            Check.feedAll(x, "abc");
            Check.due("pack(" + level + ")", x.pack(level), BAD);
            Check.due("the tape stays", x.count(1), 3);
        }
        for (int level = 0; level <= 2; level++) {
            BrotliWords x = new BrotliWords();
            Check.due("pack(" + level + ") of nothing", x.pack(level), 3);
            same("nothing", x, TestRows.start().plain("11"));
            Check.due("no commands", x.count(4), 0);
            Check.due("no commands", x.command(0, 0), BAD);
        }
    }

    private static void upTo2000Bytes() {
        for (int level = 0; level <= 2; level++) {
            for (int size : new int[] {1999, 2000, 2001, 2400}) {
                BrotliWords x = new BrotliWords();
                String text = unlike(size);
                Check.feedAll(x, text);
                if (size > 2000) {
                    Check.due("pack(" + level + ") of " + size, x.pack(level), BAD);
                    Check.due("the tape stays", x.count(1), size);
                    Check.due("OUT is of nothing", x.count(2), 0);
                } else {
                    x.pack(level);
                    Check.due("the tape is empty", x.count(1), 0);
                    opensTo("pack(" + level + ") of " + size, x, text);
                }
            }
        }
        // A byte that bits began counts: 16,000 bits are 2,000 bytes, one more is too much.
        BrotliWords x = new BrotliWords();
        Check.feedAll(x, unlike(1980));
        for (int i = 0; i < 5; i++) {
            x.bits(i, 32);
        }
        x.bits(1, 1);
        Check.due("pack(0) of 16,001 bits", x.pack(0), BAD);
        x.end(19);
        Check.due("pack(0) of 16,000 bits", x.pack(0), 2006);
    }

    private static void oneByte() {
        for (int level = 1; level <= 2; level++) {
            for (int b : new int[] {0, 'a', 255}) {
                BrotliWords x = packed("" + (char) b, level);
                Bits row = TestRows.lastHead(TestRows.start(), 1);
                TestRows.lone(row, b, 8);
                TestRows.lone(row, 2 * 64 + 8, 10);
                same("one byte " + b, x, TestRows.lone(row, 0, 6));
                command("one byte", x, 0, 1, 0, 0, 2 * 64 + 8);
                Check.due("one command", x.count(4), 1);
            }
        }
    }

    private static void rawOfEachSize() {
        for (int size : new int[] {1, 15, 16, 17, 255, 256, 257, 2000}) {
            String text = unlike(size);
            BrotliWords x = packed(text, 0);
            same("RAW of " + size, x, TestRows.raw(TestRows.start(), text).plain("11"));
            Check.due("no commands", x.count(4), 0);
        }
    }

    private static void copyOfFourAtLeast() {
        for (int level = 1; level <= 2; level++) {
            BrotliWords x = packed("abc-abc", level);
            Check.due("three like bytes", x.count(4), 1);
            command("three like bytes", x, 0, 7, 0);
            x = packed("abcd-abcd", level);
            command("four like bytes", x, 0, 5, 4, 5);
            Check.due("four like bytes", x.count(4), 1);
            // A copy that only the end cuts to three is none.
            x = packed("abcd-abc", level);
            Check.due("three at the end", x.count(4), 1);
            command("three at the end", x, 0, 8, 0);
        }
    }

    /** In one row: abc and each time another byte; four bytes never stand twice. */
    private static void threeLikeBytesWhateverTheFourth() {
        for (String three : new String[] {"abc", "aaa", "\u0001\u0002\u0003"}) {
            StringBuilder b = new StringBuilder();
            int inserts = 0;
            for (int fourth = 4; fourth < 256; fourth++) {
                if (three.indexOf(fourth) < 0) {
                    b.append(three).append((char) fourth);
                    inserts += 4;
                }
            }
            BrotliWords x = packed(b.toString(), 1);
            command("three like bytes", x, 0, inserts, 0, 0);
            Check.due("three like bytes: commands", x.count(4), 1);
        }
    }

    private static void copyOf200AtMost() {
        for (int size : new int[] {199, 200, 201, 204, 400}) {
            String block = unlike(size);
            BrotliWords x = packed(block + "!" + block, 1);
            command(size + " like bytes", x, 0, size + 1, Math.min(size, 200), size + 1);
            if (size <= 200) {
                Check.due(size + ": commands", x.count(4), 1);
            } else if (size == 201) {
                command("201 like bytes", x, 1, 1, 0, 0);
                Check.due("201: commands", x.count(4), 2);
            } else {
                command(size + " like bytes", x, 1, 0, size - 200, size + 1);
                Check.due(size + ": commands", x.count(4), 2);
            }
            opensTo(size + " like bytes", x, block + "!" + block);
        }
        // 200 of two far ones: the nearest, though the other one goes on for longer.
        String block = unlike(300);
        BrotliWords x = packed(block + "!" + block.substring(0, 200) + "?" + block.substring(0, 250), 1);
        command("the nearest of 200", x, 1, 1, 200, 201);
    }

    private static void nearestOfLikeCopies() {
        for (int level = 1; level <= 2; level++) {
            BrotliWords x = packed("abcd1abcd22abcd", level);
            command("the nearest", x, 0, 5, 4, 5);
            command("the nearest", x, 1, 2, 4, 6);
            x = packed("abcde1abcd22abcde", level);
            command("the longer one", x, 1, 2, 5, 12);
            x = packed("aaaaaaaa", level);
            command("one back", x, 0, 1, 7, 1);
            x = packed("ababababab", level);
            command("two back", x, 0, 2, 8, 2);
        }
    }

    /** A COPY may go on into the bytes from its place on; at place 0 nothing stands before. */
    private static void copyGoesOn() {
        for (int level = 1; level <= 2; level++) {
            BrotliWords x = packed("aaaa", level);
            Check.due("four like ones", x.count(4), 1);
            command("four like ones", x, 0, 4, 0);
            x = packed("aaaaa", level);
            command("five like ones", x, 0, 1, 4, 1);
            x = packed("abcabca", level);
            command("abcabca", x, 0, 3, 4, 3);
            x = packed("z".repeat(201), level);
            command("201 like ones", x, 0, 1, 200, 1);
            Check.due("201 like ones", x.count(4), 1);
            x = packed("z".repeat(202), level);
            Check.due("202 like ones", x.count(4), 2);
            command("202 like ones", x, 1, 1, 0, 0);
        }
    }

    private static void wordOfFourAtLeast() {
        // CHANGES of "word" that make two or three bytes are none; "wo, " makes four.
        String[] few = {"wo", "wor", "ord", "wo ", " wo", "WOR"};
        for (String text : few) {
            BrotliWords x = packed(text, 1, "word");
            Check.due(text + " is no word", x.count(4), 1);
            command(text, x, 0, text.length(), 0);
        }
        String[] four = {"word", "Word", "WORD", "ord ", "wor ", " ord", " wor", "wo, "};
        int[] change = {0, 1, 2, 9, 10, 15, 16, 23};
        for (int level = 1; level <= 2; level++) {
            for (int k = 0; k < four.length; k++) {
                BrotliWords x = packed(four[k], level, "word");
                command(four[k], x, 0, 0, 4, 1 + change[k]);
                Check.due(four[k] + " is a word", x.count(4), 1);
                opensTo(four[k], x, four[k]);
            }
        }
        BrotliWords x = packed("ABCDEFGHIJ, ", 1, "abcdefghij");
        command("the longest", x, 0, 0, 10, 1 + 20);
        Check.due("the longest", x.count(4), 1);
    }

    /** A word makes just the bytes that are there: none beyond the end. */
    private static void wordAtTheEnd() {
        BrotliWords x = packed("12345", 1, "123456");
        // Without the last one it fits: CHANGE 4.
        command("12345", x, 0, 0, 6, 1 + 4);
        x = packed("1234", 1, "123456");
        command("1234", x, 0, 0, 6, 1 + 5);
        x = packed("123", 1, "123456");
        command("123", x, 0, 3, 0);
        x = packed("123456,", 1, "123456");
        command("123456,", x, 0, 0, 6, 1);
        command("123456,", x, 1, 1, 0);
        x = packed("123456, ", 1, "123456");
        command("123456, ", x, 0, 0, 6, 1 + 18);
        Check.due("123456, ", x.count(4), 1);
    }

    /** A comma alone, a blank behind another sign are no CHANGE; what comes behind is not taken. */
    private static void wordsWithACommaOrABlank() {
        String[] texts = {"word; 1234", "word,1234", "word ,1234", "word,  1234", "word  1234", "word, 1234", " word 1234", "  word1234"};
        int[][] due = {{0, 0, 4}, {0, 0, 4}, {0, 6, 5}, {0, 18, 6}, {0, 6, 5}, {0, 18, 6}, {0, 12, 5}, {1, 12, 5}};
        for (int level = 1; level <= 2; level++) {
            for (int k = 0; k < texts.length; k++) {
                BrotliWords x = packed(texts[k], level, "word");
                command(texts[k], x, 0, due[k][0], 4, due[k][0] + 1 + due[k][1]);
                // What the word makes is seen by the literals behind it.
                command(texts[k], x, 1, texts[k].length() - due[k][0] - due[k][2], 0, 0);
                opensTo(texts[k], x, texts[k]);
            }
        }
        // A word of blanks: behind and ahead are alike, the least CHANGE is taken.
        command("five blanks", packed("     ", 1, "    "), 0, 0, 4, 1 + 6);
        command("four blanks", packed("    ", 1, "    "), 0, 0, 4, 1);
        command("aaa and a blank", packed("aaa ", 1, "aaaa"), 0, 0, 4, 1 + 9);
        command("a blank and aaa", packed(" aaa", 1, "aaaa"), 0, 0, 4, 1 + 15);
        command("aa, a comma and a blank", packed("aa, ", 1, "aaaa"), 0, 0, 4, 1 + 23);
        // ", , , " by a word of such signs: as it is, not as a shorter one with AROUND.
        command("commas and blanks", packed(", , , ", 1, ", , , "), 0, 0, 6, 1);
        command("commas and blanks, two more", packed(", , , , ", 1, ", , , "), 0, 0, 6, 1 + 18);
    }

    private static void leastLengthNumberChange() {
        // "time " is "time" with CHANGE 6 and a word of five; the least LENGTH is taken.
        BrotliWords x = packed("time ", 1, "time ", "time");
        command("the least LENGTH", x, 0, 0, 4, 1 + 6);
        // Number 0 of two like ones; two words have one of BITS.
        x = packed("same", 1, "same", "same");
        command("the least number", x, 0, 0, 4, 1);
        x = packed("Same", 1, "same", "Same");
        command("number 0, CHANGE 1", x, 0, 0, 4, 1 + 2);
        x = packed("SAME", 1, "SAME");
        command("CHANGE 0 of 0, 1, 2", x, 0, 0, 4, 1);
        x = packed("1234", 1, "1234", "12345", "01234", "123456", "1234567");
        command("LENGTH 4 of many", x, 0, 0, 4, 1);
        x = packed("1234", 1, "12345", "01234", "123456");
        command("LENGTH 5, number 0, CHANGE 4", x, 0, 0, 5, 1 + (4 << 1));
        x = packed("1234", 1, "01234", "12345", "123456");
        command("LENGTH 5, number 0, CHANGE 3", x, 0, 0, 5, 1 + (3 << 1));
        // The most bytes go before the least LENGTH.
        x = packed("12345", 1, "1234", "12345");
        command("the most bytes", x, 0, 0, 5, 1);
        // The last of 32 words.
        String[] words = new String[32];
        for (int i = 0; i < 32; i++) {
            words[i] = "num" + (char) (64 + i);
        }
        x = packed("NUM_, ", 2, words);
        command("number 31", x, 0, 0, 4, 1 + 31 + (20 << 5));
        opensTo("number 31", x, "NUM_, ");
    }

    /** Words that clear() took are not found, nor those behind the last one. */
    private static void wordsThatWent() {
        BrotliWords x = packed("gone word", 1, "gone", "word");
        Check.due("two words", x.command(0, 1), 4);
        x.clear();
        Check.feedAll(x, "gone word");
        x.pack(1);
        command("no words", x, 0, 9, 0, 0);
        Check.addWord(x, "this");
        Check.feedAll(x, "gone word");
        x.pack(1);
        command("another word", x, 0, 9, 0, 0);
        Check.feedAll(x, "gone this");
        x.pack(1);
        command("the word that is there", x, 0, 4, 4, 4 + 1 + 12);
    }

    private static void moreOfCopyAndWord() {
        // At 5 a COPY of five and a word of five: the COPY. With a blank behind the word makes six.
        BrotliWords x = packed("equalequal", 1, "equal");
        command("like ones", x, 1, 0, 5, 5);
        x = packed("equalequal ", 1, "equal");
        command("the word makes more", x, 1, 0, 5, 5 + 1 + 6);
        x = packed("equal!equal!", 1, "equal");
        command("the COPY makes more", x, 1, 1, 6, 6);
    }

    /** LEVEL 2: of like COSTS at a place a COPY, then a WORD, then a literal. */
    private static void costsThatAreAlike() {
        // "abcd" and 'e' or 'a' and "bcde": 33 each; the COPY at the first place.
        String text = "abcd1bcde2abcde";
        BrotliWords x = packed(text, 2);
        command("a COPY or a literal", x, 0, 10, 4, 10);
        command("a COPY or a literal", x, 1, 1, 0);
        Check.due("a COPY or a literal", x.count(4), 2);
        opensTo("a COPY or a literal", x, text);
        // The same with a literal behind it: 42 each.
        x = packed(text + "X", 2);
        command("a COPY or a literal, and one more", x, 0, 10, 4, 10);
        command("a COPY or a literal, and one more", x, 1, 2, 0);
        // The same with words.
        x = packed("abcde", 2, "abcd", "bcde");
        command("a WORD or a literal", x, 0, 0, 4, 1);
        command("a WORD or a literal", x, 1, 1, 0);
        x = packed("equalequal", 2, "equal");
        command("a COPY or a WORD", x, 1, 0, 5, 5);
        // At 7 the WORD "abcdef" and a literal, or a literal and the COPY "bcdefg": 33 each; the WORD at the first place.
        x = packed("bcdefg-abcdefg", 2, "abcdef");
        command("a WORD, or a literal and a COPY", x, 0, 0, 6, 1 + 3);
        command("a WORD, or a literal and a COPY", x, 1, 2, 6, 7 + 1);
        command("a WORD, or a literal and a COPY", x, 2, 1, 0);
        // A literal is taken where it costs less: 'a' and a COPY of nine are 33, two COPIES 48.
        x = packed("abcd-bcdefghij-abcdefghij", 2);
        command("a literal costs less", x, 0, 16, 9, 11);
        Check.due("a literal costs less", x.count(4), 1);
        // LEVEL 1 takes what is longest at once.
        x = packed("abcd-bcdefghij-abcdefghij", 1);
        command("the longest", x, 0, 15, 4, 15);
    }

    /** LEVEL 2 takes a literal, though a word or a COPY is there, if that costs less. */
    private static void aWordThatCostsMore() {
        // The word of four and six literals are 78, 'a' and the word of nine 33.
        BrotliWords x = packed("abcdefghij", 2, "abcd", "bcdefghij");
        command("a literal and a word", x, 0, 1, 9, 1 + 1);
        Check.due("a literal and a word", x.count(4), 1);
        x = packed("abcdefghij", 1, "abcd", "bcdefghij");
        command("LEVEL 1: the word at once", x, 0, 0, 4, 1);
        // Two literals and two words are 66, the word of eight and five literals 69.
        x = packed("abcdefghijklm", 2, "abcdefgh", "cdef", "ghijklm");
        command("66 or 69", x, 0, 2, 4, 2 + 1);
        command("66 or 69", x, 1, 0, 7, 6 + 1);
        Check.due("66 or 69", x.count(4), 2);
        // Two literals, a word of twelve and three literals are 69, three words 72.
        x = packed("abcdefghijkl, xyz", 2, "abcdefg", "cdefghijkl", "hijk", "l, xyz");
        command("69 or 72", x, 0, 2, 10, 2 + 1 + 18);
        command("69 or 72", x, 1, 3, 0, 0);
    }

    /** COSTS of 9 and 24: three words more and eight literals fewer are alike; what begins with a word is taken. */
    private static void fewerLiteralsOrFewerWords() {
        // Five words are 120; two words and eight literals, the first of which is ahead of them, are 120.
        String text = "ghijklmnopqrstuvwxyz0123456";
        BrotliWords x = packed(text, 2, "3456", "nopq", "z012", "ghijklm", "jklmnopqr", "qrstuvwxy", "vwxyz01234");
        int[][] due = {{0, 7, 1}, {0, 4, 7 + 1 + 1}, {0, 9, 11 + 1 + 1 + (3 << 1)}, {0, 4, 19 + 1 + 2}, {0, 4, 23 + 1}};
        Check.due("five words", x.count(4), due.length);
        for (int i = 0; i < due.length; i++) {
            command("five words", x, i, due[i]);
        }
        opensTo("five words", x, text);
        // Three words and ten literals are 162; two literals, ahead of them, and six words are 162.
        text = "abcdefghijklmnopqrstuvwxyz0123456789!?#$";
        x = packed(text, 2, "abcdefghij", "nopqrstuvw", "0123456789", "cdef", "ghijklmno", "pqrs", "tuvwxyz01", "2345", "6789!?#$");
        due = new int[][] {{0, 10, 1}, {3, 10, 13 + 1 + 1}, {3, 10, 26 + 1 + 2}, {4, 0, 0}};
        Check.due("three words", x.count(4), due.length);
        for (int i = 0; i < due.length; i++) {
            command("three words", x, i, due[i]);
        }
        opensTo("three words", x, text);
    }

    private static void literalsAtTheEnd() {
        BrotliWords x = packed("abcdabcd", 1);
        Check.due("none at the end", x.count(4), 1);
        x = packed("abcdabcdX", 1);
        Check.due("one at the end", x.count(4), 2);
        command("one at the end", x, 1, 1, 0, 0, 2 * 64 + 8);
        x = packed("abcdabcdXYZ", 1);
        command("three at the end", x, 1, 3, 0, 0, 2 * 64 + 8 * 3);
    }

    /** The command at the end tells no distance: its CODE has the one sign that was told. */
    private static void endBehindADistance() {
        BrotliWords x = packed("ababababX", 1);
        command("a COPY at 2", x, 0, 2, 6, 2, 2 * 64 + 8 * 2 + 4);
        command("X at the end", x, 1, 1, 0, 0, 2 * 64 + 8);
        Bits row = TestRows.lastHead(TestRows.start(), 9);
        // X, a, b once each: b is 0, X 10, a 11, by number X, a, b: X and a are joined first.
        row.number(1, 2).number(2, 2).number('b', 8).number('X', 8).number('a', 8);
        TestRows.two(row, 2 * 64 + 8, 2 * 64 + 8 * 2 + 4, 10);
        TestRows.lone(row, 16, 6);
        same("a distance and an end", x, row.plain("1").plain("11 0").plain("1").plain("0").plain("10"));
    }

    /** INSERT of each BASE and one less, at the end: cells 2, 4 and 7 (COPY code 0). */
    private static void eachInsertCode() {
        for (int code = 1; code < 24; code++) {
            for (int insert = SlowOpen.INSERT[code][0] - 1; insert <= SlowOpen.INSERT[code][0]; insert++) {
                if (insert < 1 || insert > 2000) {
                    continue;
                }
                int least = insert < SlowOpen.INSERT[code][0] ? code - 1 : code;
                String text = unlike(insert);
                BrotliWords x = packed(text, 1);
                Check.due("INSERT " + insert + ": commands", x.count(4), 1);
                command("INSERT " + insert, x, 0, insert, 0, 0, 64 * new int[] {2, 4, 7}[least / 8] + 8 * (least % 8));
                opensTo("INSERT " + insert, x, text);
            }
        }
    }

    /** COPY of each BASE and one less behind INSERT of one more: its cell by both codes. */
    private static void eachCopyCode() {
        for (int code = 2; code < 24; code++) {
            for (int copy = SlowOpen.COPY[code][0] - 1; copy <= SlowOpen.COPY[code][0]; copy++) {
                if (copy < 4 || copy > 200) {
                    continue;
                }
                int copyCode = copy < SlowOpen.COPY[code][0] ? code - 1 : code;
                int insertCode = TestRows.codeOf(SlowOpen.INSERT, copy + 2);
                // DISTANCE copy + 2 is no one of THE RING, but for 11, 15, 16.
                String block = unlike(copy);
                BrotliWords x = packed(block + "!?" + block, 1);
                Check.due("COPY " + copy + ": commands", x.count(4), 1);
                command("COPY " + copy, x, 0, copy + 2, copy, copy + 2, TestRows.command(insertCode, copyCode));
                opensTo("COPY " + copy, x, block + "!?" + block);
            }
        }
    }

    /** DISTANCES at the edges of each sign above 15: the sign is there when it is opened. */
    private static void eachFarSign() {
        for (int sign = 17; sign < 36; sign++) {
            int n = 1 + (sign - 16) / 2;
            int least = (2 + (sign - 16) % 2) * (1 << n) - 3;
            for (int distance : new int[] {least, least + (1 << n) - 1}) {
                if (distance < 5 || distance == 11 || distance == 15 || distance == 16 || distance > 1900) {
                    continue;
                }
                // A COPY at this DISTANCE, then one at 1 by sign 16: two signs, of LENGTH 1 each.
                String block = unlike(distance);
                String text = block + block.substring(0, 4) + "zzzzzz";
                BrotliWords x = packed(text, 1);
                command("DISTANCE " + distance, x, 0, distance, 4, distance);
                command("DISTANCE " + distance, x, 1, 1, 5, 1);
                opensTo("DISTANCE " + distance, x, text);
                Check.due("sign of DISTANCE " + distance, x.length(2, 0, sign), 1);
                Check.due("sign of DISTANCE 1", x.length(2, 0, 16), 1);
            }
        }
    }

    /** THE RING is 4, 11, 15, 16 at first: these have the signs 0 .. 3, the least if two mean it. */
    private static void leastSignOfTheRing() {
        int[] distances = {4, 11, 15, 16};
        for (int sign = 0; sign < 4; sign++) {
            String block = unlike(distances[sign]);
            String text = block + block.substring(0, 4) + "zzzzzz";
            BrotliWords x = packed(text, 1);
            command("DISTANCE " + distances[sign], x, 0, distances[sign], 4, distances[sign]);
            opensTo("DISTANCE " + distances[sign], x, text);
            Check.due("sign " + sign, x.length(2, 0, sign), sign == 0 ? 0 : 1);
            Check.due("ring(1)", x.ring(1), sign == 0 ? 4 : distances[sign]);
            Check.due("ring(2)", x.ring(2), sign == 0 ? 11 : 4);
        }
        // 7, 8, 7: the third one has sign 1 and comes to THE RING, in which 7 stands twice: the fourth, 7, has sign 0.
        String text = "ABCDEFG" + "ABCD" + "0123456789" + "2345" + "PQRSTUV" + "PQRS" + "hijklmn" + "hijk";
        BrotliWords x = packed(text, 1);
        int[] due = {7, 8, 7, 7};
        for (int i = 0; i < 4; i++) {
            command("7, 8, 7, 7", x, i, i == 1 ? 10 : 7, 4, due[i]);
        }
        // INSERT 7 is code 6, COPY 4 code 2: with sign 0 in cell 0, else in cell 2.
        Check.due("sign of the third command", x.command(2, 3), 2 * 64 + 8 * 6 + 2);
        Check.due("sign of the fourth command", x.command(3, 3), 8 * 6 + 2);
        opensTo("7, 8, 7, 7", x, text);
        int[] ring = {7, 8, 7, 4};
        for (int i = 0; i < 4; i++) {
            Check.due("ring(" + i + ")", x.ring(i), ring[i]);
        }
        Check.due("sign 1 is there", x.length(2, 0, 1) > 0 ? 1 : 0, 1);
    }

    private static void wordsLeaveTheRing() {
        // A word at 10 has DISTANCE 11, that of sign 1; then a COPY at 4 is still sign 0.
        String text = "0123456789" + "word" + "efgh" + "efgh";
        BrotliWords x = packed(text, 1, "word");
        command("a word by sign 1", x, 0, 10, 4, 11, TestRows.command(8, 2));
        command("a COPY by sign 0", x, 1, 4, 4, 4, 8 * 4 + 2);
        opensTo("a word and a COPY", x, text);
        Check.due("ring(0)", x.ring(0), 4);
        Check.due("ring(1)", x.ring(1), 11);
        // At 3 a word has DISTANCE 4: sign 0, in cell 0.
        x = packed("012word", 1, "word");
        command("a word by sign 0", x, 0, 3, 4, 4, 8 * 3 + 2);
        opensTo("a word by sign 0", x, "012word");
    }

    /** Cell 0 up to COPY 9, cell 1 up to COPY 69, both with INSERT up to 9; sign 0 is told from there on. */
    private static void cellsWithSign0() {
        int[][] copies = {{4, 2}, {9, 7}, {10, 64}, {69, 64 + 7}, {70, 6 * 64}, {196, 6 * 64 + 2}, {200, 6 * 64 + 3}};
        for (int[] one : copies) {
            String text = "abcd".repeat(51).substring(0, 4 + one[0]);
            BrotliWords x = packed(text, 1);
            command("COPY " + one[0] + " by sign 0", x, 0, 4, one[0], 4, one[1] + 8 * 4);
            Check.due("COPY " + one[0] + " by sign 0: commands", x.count(4), 1);
            opensTo("COPY " + one[0] + " by sign 0", x, text);
        }
        int[][] inserts = {{4, 8 * 4}, {6, 8 * 6}, {7, 8 * 6}, {8, 8 * 7}, {9, 8 * 7}, {10, 4 * 64}, {13, 4 * 64},
            {129, 4 * 64 + 8 * 7}, {130, 7 * 64}};
        for (int[] one : inserts) {
            String text = unlike(one[0] - 4) + "abcd" + "abcd";
            BrotliWords x = packed(text, 1);
            command("INSERT " + one[0] + " by sign 0", x, 0, one[0], 4, 4, one[1] + 2);
            opensTo("INSERT " + one[0] + " by sign 0", x, text);
            text = unlike(one[0] - 4) + "abcd".repeat(4);
            x = packed(text, 1);
            // COPY 12 is code 9: cell 1, or behind INSERT of code 8 and more cells 5 and 9.
            int cell = one[0] < 10 ? 1 : one[0] < 130 ? 5 : 9;
            command("INSERT " + one[0] + ", COPY 12 by sign 0", x, 0, one[0], 12, 4, 64 * cell + one[1] % 64 + 1);
            opensTo("INSERT " + one[0] + ", COPY 12 by sign 0", x, text);
        }
        // The last sign of cell 1 and the first one of cell 2 that can be: 127 and 130.
        String most = unlike(5) + "abcd" + "abcd".repeat(16) + "ab" + "zzzzzz";
        BrotliWords last = packed(most, 1);
        command("sign 127", last, 0, 9, 66, 4, 127);
        command("sign 127", last, 1, 1, 5, 1);
        opensTo("sign 127", last, most);
        Check.due("a lone distance is told, that of 1", last.length(2, 0, 16), 0);
        last = packed("word", 1, "word");
        command("sign 130", last, 0, 0, 4, 1, 130);
        // At the end sign 0 is no matter: cell 2.
        command("at the end", packed("abcd", 1), 0, 4, 0, 0, 2 * 64 + 8 * 4);
        // Without literals ahead of it: "abcdabcd" and 201 more.
        BrotliWords x = packed("abcd".repeat(60), 1);
        command("INSERT 0 by sign 0", x, 1, 0, 36, 4, 64 + 5);
    }

    /** If no distance is told its CODE is that of sign 0 alone. */
    private static void noDistanceAtAll() {
        BrotliWords x = packed("abcdabcd", 1);
        Bits row = TestRows.lastHead(TestRows.start(), 8);
        row.number(1, 2).number(3, 2).number('a', 8).number('b', 8).number('c', 8).number('d', 8).plain("0");
        TestRows.lone(row, 8 * 4 + 2, 10);
        TestRows.lone(row, 0, 6);
        same("cell 0", x, row.plain("00 01 10 11"));
        // No literal at all: a word alone.
        x = packed("word", 1, "word");
        row = TestRows.lastHead(TestRows.start(x), 4);
        TestRows.lone(row, 0, 8);
        TestRows.lone(row, 2 * 64 + 2, 10);
        TestRows.lone(row, 16, 6);
        same("a word alone", x, row.plain("0"));
    }

    private static Bits literals(int size, String codeOfLiterals) {
        Bits row = TestRows.lastHead(TestRows.start(), size).plain(codeOfLiterals);
        int code = TestRows.codeOf(SlowOpen.INSERT, size);
        TestRows.lone(row, TestRows.command(code, 0), 10);
        return TestRows.lone(row, 0, 6).number(size - SlowOpen.INSERT[code][0], SlowOpen.INSERT[code][1]);
    }

    private static String shortly(int... signs) {
        Bits row = new Bits().number(1, 2).number(signs.length - 1, 2);
        for (int sign : signs) {
            row.number(sign, 8);
        }
        return row.row.toString();
    }

    /** The first way: by LENGTHS, like ones by number. */
    private static void oneToFourSigns() {
        same("one", packed("aaa", 1), literals(3, shortly('a')));
        same("two", packed("bbab", 1), literals(4, shortly('a', 'b')).plain("1 1 0 1"));
        // Once, once, twice: 'c' is 0, 'a' 10, 'b' 11.
        same("three", packed("ccab", 1), literals(4, shortly('c', 'a', 'b')).plain("0 0 10 11"));
        // Each once: the first two are joined, then the third is the other half.
        same("three like ones", packed("cab", 1), literals(3, shortly('c', 'a', 'b')).plain("0 10 11"));
        same("four like ones", packed("dcba", 1), literals(4, shortly('a', 'b', 'c', 'd') + "0").plain("11 10 01 00"));
        // a, b, c, d 1, 1, 2, 4 times: d is 0, c 10, a 110, b 111.
        same("four, steep", packed("ddcdabcd", 1), literals(8, shortly('d', 'c', 'a', 'b') + "1")
            .plain("0 0 10 0 110 111 10 0"));
        // 1, 1, 2, 2: 2 by the sign c goes before 2 by the joined ones: c and d are joined: 2 each.
        same("four, 1 1 2 2", packed("dcabdc", 1), literals(6, shortly('a', 'b', 'c', 'd') + "0").plain("11 10 00 01 11 10"));
        // 1, 1, 1, 3: a and b, then c and these (2), then d (3) and these (3).
        same("four, 1 1 1 3", packed("dabdcd", 1), literals(6, shortly('d', 'c', 'a', 'b') + "1").plain("0 110 111 0 10 0"));
    }

    /** At length: a, b, c, d, e once each: LENGTHS 3, 3, 2, 2, 2. */
    private static void fiveSigns() {
        StringBuilder marks = new StringBuilder();
        // 97 0s: ten by a 17 and one by a 0 eight times, then nine by a 17. Marks 17, 0, 2, 3 are 9, 8, 3, 2 times there.
        for (int k = 0; k < 8; k++) {
            marks.append("0").append("111").append("10");
        }
        marks.append("0").append("011");
        marks.append("111 111 110 110 110");
        // Told: 1: 0, 2: 3, 3: 3, 4: 0, 0: 2, 5: 0, 17: 1, and it is 32.
        String told = "00" + "00 01 01 00 110 00 1110";
        same("five like ones", packed("abcde", 1), literals(5, told + marks).plain("110 111 00 01 10"));
    }

    /** Runs of 0s between signs: two by 0s, three by a 17, eleven by a 17 and a 0, and so on. */
    private static void zerosInMarks() {
        int[][] due = {{0}, {0, 0}, {1703}, {1704}, {1705}, {1706}, {1707}, {1708}, {1709}, {1710}, {1710, 0},
            {1710, 0, 0}, {1710, 0, 0, 0}, {1710, 0, 1703}, {1710, 0, 1704}, {1710, 0, 1705}, {1710, 0, 1706}, {1710, 0, 1707},
            {1710, 0, 1708}, {1710, 0, 1709}, {1710, 0, 1710}, {1710, 0, 1710, 0}, {1710, 0, 1710, 0, 0},
            {1710, 0, 1710, 0, 0, 0}, {1710, 0, 1710, 0, 1703}};
        for (int zeros = 1; zeros <= due.length; zeros++) {
            // Signs 0, 1, 2, 3 and one behind the 0s, each once: LENGTHS 3, 3, 2, 2, 2.
            String text = "" + (char) 0 + (char) 1 + (char) 2 + (char) 3 + (char) (4 + zeros);
            int[] marks = new int[due[zeros - 1].length + 5];
            System.arraycopy(new int[] {3, 3, 2, 2}, 0, marks, 0, 4);
            System.arraycopy(due[zeros - 1], 0, marks, 4, marks.length - 5);
            marks[marks.length - 1] = 2;
            same(zeros + " 0s", packed(text, 1), literals(5, told(marks)).plain("110 111 00 01 10"));
        }
        // At the start, and none behind the last sign.
        for (int zeros = 1; zeros <= due.length; zeros++) {
            String text = "";
            for (int k = 0; k < 5; k++) {
                text += (char) (zeros + k);
            }
            int[] marks = Arrays.copyOf(due[zeros - 1], due[zeros - 1].length + 5);
            System.arraycopy(new int[] {3, 3, 2, 2, 2}, 0, marks, marks.length - 5, 5);
            same(zeros + " 0s at the start", packed(text, 1), literals(5, told(marks)).plain("110 111 00 01 10"));
        }
    }

    /** The bits of h and of these marks: 1703 .. 1710 is a 17 for so many. */
    private static String told(int... marks) {
        int[] often = new int[18];
        int different = 0;
        for (int mark : marks) {
            different += often[mark > 100 ? 17 : mark]++ == 0 ? 1 : 0;
        }
        int[] lengths = SlowPack.lengths(often, 5);
        String[] told = {"00", "1110", "110", "01", "10", "1111"};
        Bits bits = new Bits().plain("00");
        int sum = 0;
        for (int mark : new int[] {1, 2, 3, 4, 0, 5, 17, 6, 16, 7, 8, 9, 10, 11, 12, 13, 14, 15}) {
            if (sum < 32) {
                int n = different == 1 && often[mark] > 0 ? 1 : lengths[mark];
                bits.plain(told[n]);
                sum += n == 0 ? 0 : 32 >> n;
            }
        }
        for (int mark : marks) {
            Weaver.putSign(bits, lengths, mark > 100 ? 17 : mark);
            bits.number(mark > 100 ? mark - 1703 : 0, mark > 100 ? 3 : 0);
        }
        return bits.row.toString();
    }

    /** The bytes 0 .. 7 once each have LENGTH 3: a lone mark, told as 1, and all 18 are told. */
    private static void loneMark() {
        StringBuilder text = new StringBuilder();
        StringBuilder bits = new StringBuilder();
        for (int b = 0; b < 8; b++) {
            text.append((char) b);
            bits.append(b >> 2 & 1).append(b >> 1 & 1).append(b & 1);
        }
        String told = "00" + "00 00 1110" + "00".repeat(15);
        same("eight signs", packed(text.toString(), 1), literals(8, told).plain(bits.toString()));
    }

    /** Marks so unlike that one would have 6: their weights are halved, and 1, and anew. */
    private static void marksAbove5() {
        // LENGTHS 2 .. 8 of bytes by 2^k times each, with many bytes of LENGTH 9 and 10 beside them.
        StringBuilder b = new StringBuilder();
        int[] often = {1, 1, 2, 4, 8, 16, 32, 64, 128, 200};
        for (int k = 0; k < often.length; k++) {
            for (int i = 0; i < often[k]; i++) {
                b.append((char) (16 * k + 7)).append((char) (150 + (i * 7 + k * 3) % 90));
            }
        }
        int[] weights = new int[256];
        BrotliWords x = packed(b.toString(), 1);
        int at = 0;
        for (int i = 0; i < x.count(4); i++) {
            for (int k = 0; k < x.command(i, 0); k++) {
                weights[b.charAt(at++)]++;
            }
            at += x.command(i, 1);
        }
        int[] lengths = SlowPack.lengths(weights, 15);
        int[] marks = new int[18];
        int zeros = 0;
        for (int s = 0; s < 256; s++) {
            marks[lengths[s]] += lengths[s] > 0 ? 1 : 0;
            zeros = lengths[s] == 0 ? zeros + 1 : zeros;
        }
        // Without the 0s, which only make it steeper, some mark is joined more often than five times.
        marks[0] = zeros / 11;
        marks[17] = zeros / 11;
        int deepest = Arrays.stream(SlowPack.lengths(marks, 99)).max().getAsInt();
        Check.due("a mark is joined more than five times", deepest > 5 ? 1 : 0, 1);
        same("marks above 5", x, new SlowPack(new SlowWords(), b.toString(), 1).bits);
        opensTo("marks above 5", x, b.toString());
    }

    private static String shuffled(int seed) {
        Random random = new Random(seed);
        int signs = 5 + random.nextInt(120);
        int[] sign = new int[signs];
        int at = random.nextInt(20);
        for (int k = 0; k < signs; k++) {
            sign[k] = Math.min(at, 255);
            at += 1 + (random.nextInt(4) == 0 ? random.nextInt(12) : 0);
        }
        List<Character> all = new ArrayList<>();
        for (int k = 0; k < signs; k++) {
            int many = 1 << Math.min(Math.min(random.nextInt(10), random.nextInt(10)), 8);
            many = random.nextInt(3) > 0 ? 1 + random.nextInt(3) : many;
            all.addAll(Collections.nCopies(many, (char) sign[k]));
        }
        Collections.shuffle(all, random);
        StringBuilder b = new StringBuilder();
        for (char c : all) {
            b.append(c);
        }
        b.setLength(Math.min(b.length(), 2000));
        return b.toString();
    }

    /**
     * In the first row the marks 0, 3, 4, 5, 6, 7, 8, 9, 17 of the literals are 13, 3, 4, 4, 3, 3, 39, 14, 12
     * times there: one would have 6. Halved, and 1, they are 7, 2, 3, 3, 2, 2, 20, 8, 7: LENGTHS 3, 5, 4, 4, 5,
     * 4, 2, 2, 3. Others are judged by SlowPack.
     */
    private static void marksAreHalved() {
        BrotliWords x = packed(shuffled(37), 1);
        StringBuilder bits = new StringBuilder();
        for (int i = 0; i < 20; i++) {
            bits.append(new Bits().number(x.out(i), 8).row);
        }
        String told = "00" + "00 00 1111 10 01 10 01 1111 00 10 110 110".replace(" ", "");
        Check.due("marks that are halved", bits.substring(50, 50 + told.length()).equals(told) ? 1 : 0, 1);
        for (int seed : new int[] {37, 68, 92, 554, 2868, 2885, 2893, 2900, 2922, 2939, 2954, 2958, 2970, 2971, 2985, 2994}) {
            String text = shuffled(seed);
            x = packed(text, 1);
            same("marks that are halved, " + seed, x, new SlowPack(new SlowWords(), text, 1).bits);
            opensTo("marks that are halved, " + seed, x, text);
        }
    }

    /** Each byte once has LENGTH 8: a lone mark. Then some of them more often. */
    private static void all256Signs() {
        StringBuilder text = new StringBuilder();
        StringBuilder bits = new StringBuilder();
        for (int b = 0; b < 256; b++) {
            text.append((char) b);
            for (int k = 7; k >= 0; k--) {
                bits.append(b >> k & 1);
            }
        }
        String told = "00" + "00".repeat(10) + "1110" + "00".repeat(7);
        same("256 signs", packed(text.toString(), 1), literals(256, told).plain(bits.toString()));
        for (int k = 0; k < 400; k++) {
            text.append((char) (k * 31 % 100 + k % 3));
        }
        BrotliWords x = packed(text.toString(), 2);
        same("256 signs, some more often", x, new SlowPack(new SlowWords(), text.toString(), 2).bits);
        opensTo("256 signs, some more often", x, text.toString());
    }

    private static void commandsThatAreThere() {
        BrotliWords x = packed("abcdabcdX", 1);
        for (int i : new int[] {-1, 2, 3, MIN, MAX}) {
            for (int what = 0; what < 4; what++) {
                Check.due("command(" + i + ", " + what + ")", x.command(i, what), BAD);
            }
        }
        for (int what : new int[] {-1, 4, 5, MIN, MAX}) {
            Check.due("command(0, " + what + ")", x.command(0, what), BAD);
            Check.due("command(1, " + what + ")", x.command(1, what), BAD);
        }
        command("the first", x, 0, 4, 4, 4, 8 * 4 + 2);
        command("the last", x, 1, 1, 0, 0, 2 * 64 + 8);
        // The most commands: copies of four bytes, one behind the other.
        StringBuilder b = new StringBuilder();
        for (int i = 0; i < 26; i++) {
            b.append("" + (char) (97 + i) + (char) (65 + i) + (char) (97 + i) + (char) (65 + i * 7 % 26));
        }
        for (int i = 0; b.length() < 2000; i++) {
            int from = 4 * (i * 11 % 26);
            b.append(b, from, from + 4);
        }
        x = packed(b.toString(), 1);
        SlowPack due = new SlowPack(new SlowWords(), b.toString(), 1);
        Check.due("many commands", x.count(4), due.commands.size());
        same("many commands", x, due.bits);
    }

    /** The most commands: 500 words and copies of four bytes each, no two of which stand twice side by side. */
    private static void fiveHundredCommands() {
        BrotliWords x = new BrotliWords();
        String[] words = new String[32];
        for (int i = 0; i < 32; i++) {
            words[i] = "" + (char) (33 + i) + (char) (65 + i) + (char) (97 + i % 26) + (char) (129 + i);
            Check.addWord(x, words[i]);
        }
        StringBuilder text = new StringBuilder();
        boolean[] seen = new boolean[1024];
        int before = 0;
        text.append(words[0]);
        for (int k = 1; k < 500; k++) {
            // Always the greatest that has not yet come behind this one: so the row goes on for all pairs.
            int next = 31;
            while (seen[32 * before + next]) {
                next--;
            }
            seen[32 * before + next] = true;
            text.append(words[next]);
            before = next;
        }
        Check.feedAll(x, text.toString());
        x.pack(1);
        Check.due("500 commands", x.count(4), 500);
        command("the last of 500", x, 499, 0, 4);
        Check.due("none behind", x.command(500, 0), BAD);
        int size = x.count(2);
        Check.due("pass()", x.pass(), size);
        Check.due("open()", x.open(), 2000);
        Check.due("commands", x.part(0, 9), 500);
        Check.due("copies and words", x.part(0, 10) + x.part(0, 11), 500);
        Check.due("the last byte", x.out(1999), text.charAt(1999));
        // Four literals at the end instead of the last one: 499 and one more.
        text.setLength(1996);
        Check.feedAll(x, text + "0000");
        x.pack(1);
        Check.due("499 commands and the end", x.count(4), 500);
        command("the end", x, 499, 4, 0, 0);
    }

    /** What an earlier pack() saw is no matter: as on a new object. */
    private static void packsOneBehindTheOther() {
        String[] texts = {"", "a", "word", "0123456789abcdY...", "abcdZabcdY", "aaaaaaaaaaaaaaaaaaaaaaaa", unlike(120),
            unlike(60) + "!" + unlike(60) + "?", "Words, words word, of words: word, of WORD", "abcdeabcdeX", "ddcdabcd",
            "zzzzzzzzzz word zzzzzzzzzz", shuffled(11).substring(0, 60), "abcd1bcde2abcde"};
        for (int level = 1; level <= 2; level++) {
            for (String first : texts) {
                for (String second : texts) {
                    BrotliWords x = packed(first, level, "word", "words");
                    Check.feedAll(x, second);
                    x.pack(level);
                    BrotliWords fresh = packed(second, level, "word", "words");
                    String name = "pack(" + level + ") of " + second + " behind " + first;
                    Check.due(name, x.count(2), fresh.count(2));
                    for (int i = 0; i < fresh.count(2); i++) {
                        Check.due(name + ": out(" + i + ")", x.out(i), fresh.out(i));
                    }
                    Check.due(name + ": commands", x.count(4), fresh.count(4));
                    for (int i = 0; i < fresh.count(4); i++) {
                        for (int what = 0; what < 4; what++) {
                            Check.due(name + ": command(" + i + ", " + what + ")", x.command(i, what), fresh.command(i, what));
                        }
                    }
                }
            }
        }
    }

    private static void whatPackLeaves() {
        BrotliWords x = packed("abcdabcd", 2, "word");
        int size = x.count(2);
        Check.due("the tape is empty", x.count(1), 0);
        Check.due("the words stay", x.count(0), 1);
        Check.due("pack(5)", x.pack(5), BAD);
        Check.due("OUT stays behind a BAD one", x.count(2), size);
        Check.due("the commands stay behind a BAD one", x.count(4), 1);
        x.pass();
        Check.due("open()", x.open(), 8);
        Check.due("the commands stay behind open()", x.count(4), 1);
        command("behind open()", x, 0, 4, 4, 4);
        Check.due("pack(0) of nothing", x.pack(0), 3);
        Check.due("LEVEL 0 has no commands", x.count(4), 0);
        Check.due("LEVEL 0 has no commands", x.command(0, 0), BAD);
        Check.feedAll(x, "abcdabcd");
        x.pack(1);
        Check.due("commands again", x.count(4), 1);
        Check.due("pack(1) of nothing", x.pack(1), 3);
        Check.due("nothing has no commands", x.count(4), 0);
    }
}
