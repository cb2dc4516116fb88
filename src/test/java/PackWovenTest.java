import java.util.ArrayList;
import java.util.List;
import java.util.Random;

/** Promises 11 and 20: texts by chance, packed by all LEVELS, judged by SlowPack and opened again. */
public final class PackWovenTest {
    public static void main(String[] args) {
        int rounds = args.length > 0 ? Integer.parseInt(args[0]) : 120;
        int from = args.length > 1 ? Integer.parseInt(args[1]) : 1;
        for (int seed = from; seed < from + rounds; seed++) {
            Random random = new Random(seed);
            List<String> list = new ArrayList<>();
            int many = random.nextInt(4) == 0 ? 0 : random.nextInt(60);
            int signs = random.nextBoolean() ? 3 : 26;
            for (int i = 0; i < many; i++) {
                list.add(chanceWord(random, signs));
            }
            SlowWords words = new SlowWords();
            BrotliWords x = new BrotliWords();
            for (String word : list) {
                if (words.of(word.length()).size() < 32) {
                    words.add(word);
                    Check.addWord(x, word);
                }
            }
            String text = chanceText(random, list, seed);
            for (int level = 0; level < 3; level++) {
                judge("seed " + seed + " level " + level, x, text, level, new SlowPack(words, text, level));
            }
        }
        Check.finish();
    }

    private static String chanceWord(Random random, int signs) {
        int size = 4 + random.nextInt(7);
        if (random.nextInt(5) > 0) {
            return Check.randomText(random, size, signs);
        }
        StringBuilder b = new StringBuilder();
        for (int i = 0; i < size; i++) {
            b.append(random.nextBoolean() ? " ,AZ`{z".charAt(random.nextInt(7)) : (char) random.nextInt(256));
        }
        return b.toString();
    }

    private static String chanceText(Random random, List<String> list, int seed) {
        int size = seed % 8 == 0 ? 1900 + random.nextInt(101) : random.nextInt(seed % 3 == 0 ? 30 : 600);
        StringBuilder b = new StringBuilder();
        int sort = random.nextInt(5);
        while (b.length() < size) {
            int way = random.nextInt(6);
            if (way < 3 && !list.isEmpty() && sort < 3) {
                b.append(SlowWords.changed(list.get(random.nextInt(list.size())), random.nextInt(24)));
            } else if (way == 3 && b.length() > 0) {
                int back = 1 + random.nextInt(b.length());
                int many = random.nextInt(random.nextInt(5) == 0 ? 400 : 20);
                for (int i = 0; i < many; i++) {
                    b.append(b.charAt(b.length() - back));
                }
            } else if (sort == 3) {
                b.append((char) random.nextInt(256));
            } else if (sort == 4) {
                // Some bytes far oftener than others, so that the LENGTHS go far apart.
                b.append((char) (64 + Math.min(Integer.numberOfTrailingZeros(random.nextInt() | 1 << 20), 20)));
            } else {
                b.append(" ,abc".charAt(random.nextInt(5)));
            }
        }
        b.setLength(size);
        return b.toString();
    }

    private static void judge(String name, BrotliWords other, String text, int level, SlowPack due) {
        BrotliWords x = other;
        x.wipe();
        Check.feedAll(x, text);
        byte[] bytes = due.bits.bytes();
        Check.due(name + ": pack()", x.pack(level), bytes.length);
        Check.due(name + ": count(1)", x.count(1), 0);
        for (int i = 0; i < bytes.length; i++) {
            Check.due(name + ": out(" + i + ")", x.out(i), bytes[i] & 255);
        }
        Check.due(name + ": count(4)", x.count(4), due.commands.size());
        for (int i = 0; i < due.commands.size(); i++) {
            for (int what = 0; what < 4; what++) {
                Check.due(name + ": command(" + i + ", " + what + ")", x.command(i, what), due.commands.get(i)[what]);
            }
        }
        Check.due(name + ": command(count, 0)", x.command(due.commands.size(), 0), -1);
        Check.due(name + ": pass()", x.pass(), bytes.length);
        Check.due(name + ": open()", x.open(), text.length());
        Check.due(name + ": read()", x.read(), 8 * bytes.length);
        for (int i = 0; i < text.length(); i++) {
            Check.due(name + ": opened out(" + i + ")", x.out(i), text.charAt(i));
        }
    }
}
