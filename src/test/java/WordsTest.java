import java.util.Random;

/** Promises 7 to 10: THE WORDS, their DIGEST and CHANGES. */
public final class WordsTest {
    public static void main(String[] args) {
        lengths();
        full();
        clearing();
        digests();
        changes();
        wrongChanges();
        Check.finish();
    }

    private static void lengths() {
        BrotliWords x = new BrotliWords();
        Check.due("word of an empty tape", x.word(), BrotliWords.BAD);
        Check.due("word of three", Check.addWord(x, "abc"), BrotliWords.BAD);
        Check.due("the tape stays", x.wipe(), 3);
        Check.due("word of eleven", Check.addWord(x, "abcdefghijk"), BrotliWords.BAD);
        Check.due("the tape stays", x.wipe(), 11);
        for (int length = 4; length <= 10; length++) {
            Check.due("first of " + length, Check.addWord(x, "abcdefghij".substring(0, length)), 1);
            Check.due("the tape is empty", x.count(1), 0);
            Check.due("second of " + length, Check.addWord(x, "abcdefghij".substring(0, length)), 2);
        }
        Check.due("count(0)", x.count(0), 14);
    }

    private static void full() {
        BrotliWords x = new BrotliWords();
        for (int i = 1; i <= 32; i++) {
            Check.due("word " + i, Check.addWord(x, "wo" + (char) ('a' + i / 10) + (char) ('a' + i % 10)), i);
        }
        Check.due("word 33", Check.addWord(x, "more"), BrotliWords.FULL);
        Check.due("the tape stays", x.wipe(), 4);
        Check.due("another length", Check.addWord(x, "other"), 1);
        Check.due("count(0)", x.count(0), 33);
        Check.due("the last of 32", x.changed(4, 31, 0, 3), 'a' + 2);
        Check.due("none behind it", x.changed(4, 32, 0, 3), BrotliWords.BAD);
    }

    private static void clearing() {
        BrotliWords x = new BrotliWords();
        Check.addWord(x, "some");
        Check.addWord(x, "words");
        x.bits(1, 3);
        Check.due("clear", x.clear(), 2);
        Check.due("count(0)", x.count(0), 0);
        Check.due("digest", x.digest(), 40293);
        Check.due("no word", x.changed(4, 0, 0, -1), BrotliWords.BAD);
        Check.due("clear again", x.clear(), 0);
        Check.due("the tape is as it was", x.bits(1, 1), 4);
        x.wipe();
        Check.due("from 1 on again", Check.addWord(x, "some"), 1);
    }

    private static void digests() {
        BrotliWords x = new BrotliWords();
        SlowWords slow = new SlowWords();
        Random random = new Random(7);
        Check.due("digest of none", x.digest(), slow.digest());
        for (int i = 0; i < 60; i++) {
            StringBuilder word = new StringBuilder();
            int size = 4 + random.nextInt(7);
            for (int k = 0; k < size; k++) {
                word.append((char) random.nextInt(256));
            }
            slow.add(word.toString());
            Check.due("word", Check.addWord(x, word.toString()), slow.of(size).size());
            Check.due("digest " + i, x.digest(), slow.digest());
        }
    }

    private static void changes() {
        BrotliWords x = new BrotliWords();
        String[] words = {"time", "Zeit", "a{`z", "zzzzz", "\u00e9t\u00e9 z", "commas", "lengthy", "eighteen", "nineteens", "ten,,signs"};
        int[] next = new int[11];
        for (String word : words) {
            Check.addWord(x, word);
        }
        for (String word : words) {
            int length = word.length();
            int number = next[length]++;
            for (int change = 0; change < 24; change++) {
                String due = SlowWords.changed(word, change);
                String name = "changed(" + length + ", " + number + ", " + change + ", ";
                Check.due(name + "-1)", x.changed(length, number, change, -1), due.length());
                for (int i = 0; i < due.length(); i++) {
                    Check.due(name + i + ")", x.changed(length, number, change, i), due.charAt(i));
                }
                Check.due(name + "size)", x.changed(length, number, change, due.length()), BrotliWords.BAD);
                Check.due(name + "-2)", x.changed(length, number, change, -2), BrotliWords.BAD);
            }
        }
        String[] byHand = {"time", "Time", "TIME", "ime", "tim", "ti", "time ", "Time ", "TIME ", "ime ", "tim ", "ti ",
            " time", " Time", " TIME", " ime", " tim", " ti", "time, ", "Time, ", "TIME, ", "ime, ", "tim, ", "ti, "};
        for (int change = 0; change < 24; change++) {
            Check.due("by hand, size " + change, x.changed(4, 0, change, -1), byHand[change].length());
            for (int i = 0; i < byHand[change].length(); i++) {
                Check.due("by hand " + change + " " + i, x.changed(4, 0, change, i), byHand[change].charAt(i));
            }
        }
    }

    private static void wrongChanges() {
        BrotliWords x = new BrotliWords();
        Check.addWord(x, "only");
        int[][] wrong = {{3, 0, 0, 0}, {11, 0, 0, 0}, {5, 0, 0, 0}, {4, 1, 0, 0}, {4, -1, 0, 0}, {4, 0, -1, 0},
            {4, 0, 24, 0}, {4, 0, 0, 4}, {4, 0, 0, -2}, {-4, 0, 0, -1}, {Integer.MAX_VALUE, 0, 0, 0},
            {4, Integer.MAX_VALUE, 0, 0}, {4, 0, Integer.MIN_VALUE, 0}, {4, 0, 0, Integer.MAX_VALUE},
            {0, 0, 0, -1}, {Integer.MIN_VALUE, Integer.MIN_VALUE, 0, Integer.MIN_VALUE}};
        for (int[] w : wrong) {
            Check.due("changed(" + w[0] + ", " + w[1] + ", " + w[2] + ", " + w[3] + ")",
                x.changed(w[0], w[1], w[2], w[3]), BrotliWords.BAD);
        }
    }
}
