import java.util.ArrayList;
import java.util.List;

/** THE WORDS and CHANGES as the document tells them, for tests, by texts and lists. */
final class SlowWords {
    final List<List<String>> byLength = new ArrayList<>();

    SlowWords() {
        for (int length = 0; length <= 10; length++) {
            byLength.add(new ArrayList<>());
        }
    }

    void add(String word) {
        byLength.get(word.length()).add(word);
    }

    List<String> of(int length) {
        return length < 4 || length > 10 ? new ArrayList<>() : byLength.get(length);
    }

    int bits(int length) {
        int b = 0;
        while (Math.pow(2, b) < of(length).size()) {
            b++;
        }
        return b;
    }

    int digest() {
        long h = 5381;
        for (int length = 4; length <= 10; length++) {
            h = h * 33 % 65536 ^ of(length).size();
            for (String word : of(length)) {
                for (char c : word.toCharArray()) {
                    h = h * 33 % 65536 ^ c;
                }
            }
        }
        return (int) (h % 65536);
    }

    static String changed(String word, int change) {
        String core = switch (change % 6) {
            case 0 -> word;
            case 1 -> raised(word.substring(0, 1)) + word.substring(1);
            case 2 -> raised(word);
            case 3 -> word.substring(1);
            case 4 -> word.substring(0, word.length() - 1);
            default -> word.substring(0, word.length() - 2);
        };
        return switch (change / 6) {
            case 0 -> core;
            case 1 -> core + " ";
            case 2 -> " " + core;
            default -> core + ", ";
        };
    }

    private static String raised(String s) {
        StringBuilder b = new StringBuilder();
        for (char c : s.toCharArray()) {
            b.append("abcdefghijklmnopqrstuvwxyz".indexOf(c) >= 0 ? (char) (c - 32) : c);
        }
        return b.toString();
    }
}
