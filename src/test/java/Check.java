import java.util.Random;

/** What the project's tests share: answers that are due, and ways to fill a TAPE. */
final class Check {
    private static int wrong = 0;
    private static int asked = 0;

    private Check() {
    }

    static void due(String what, long got, long want) {
        asked++;
        if (got != want) {
            wrong++;
            if (wrong <= 50) {
                System.out.println(what + " answered " + got + ", due is " + want);
            }
        }
    }

    static void finish() {
        System.out.println(asked + " answers, " + wrong + " wrong");
        if (wrong != 0 || asked == 0) {
            System.exit(1);
        }
    }

    /** Puts bytes behind the TAPE; the object must have room for a whole feed() of the last ones. */
    static void feedAll(BrotliWords x, byte[] bytes) {
        int whole = bytes.length / 20 * 20;
        for (int i = 0; i < whole; i += 20) {
            x.feed(number(bytes, i), number(bytes, i + 4), number(bytes, i + 8),
                number(bytes, i + 12), number(bytes, i + 16));
        }
        for (int i = whole; i < bytes.length; i++) {
            x.bits(bytes[i], 8);
        }
    }

    private static int number(byte[] bytes, int i) {
        return (bytes[i] & 255) << 24 | (bytes[i + 1] & 255) << 16 | (bytes[i + 2] & 255) << 8 | bytes[i + 3] & 255;
    }

    static void feedAll(BrotliWords x, String text) {
        feedAll(x, bytesOf(text));
    }

    static byte[] bytesOf(String text) {
        byte[] bytes = new byte[text.length()];
        for (int i = 0; i < bytes.length; i++) {
            bytes[i] = (byte) text.charAt(i);
        }
        return bytes;
    }

    static int addWord(BrotliWords x, String word) {
        feedAll(x, word);
        return x.word();
    }

    static String outOf(BrotliWords x) {
        StringBuilder b = new StringBuilder();
        for (int i = 0; i < x.count(2); i++) {
            b.append((char) x.out(i));
        }
        return b.toString();
    }

    static String randomText(Random random, int size, int signs) {
        StringBuilder b = new StringBuilder();
        for (int i = 0; i < size; i++) {
            b.append((char) ('a' + random.nextInt(signs)));
        }
        return b.toString();
    }
}
