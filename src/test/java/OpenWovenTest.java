import java.util.ArrayList;
import java.util.List;
import java.util.Random;

/** Promises 12, 15 to 19, 21: rows by chance, whole and spoiled, judged by SlowOpen. */
public final class OpenWovenTest {
    public static void main(String[] args) {
        int[] seen = new int[20];
        int rounds = args.length > 0 ? Integer.parseInt(args[0]) : 250;
        int from = args.length > 1 ? Integer.parseInt(args[1]) : 1;
        for (int seed = from; seed < from + rounds; seed++) {
            Random random = new Random(seed);
            SlowWords words = new SlowWords();
            List<String> list = chanceWords(random);
            for (String word : list) {
                words.add(word);
            }
            String row = new Weaver(random, words).weave();
            SlowOpen whole = new SlowOpen(words, row);
            Check.due("seed " + seed + ": the row keeps the rules, answer", Math.min(whole.answer, 0), 0);
            BrotliWords x = new BrotliWords();
            for (String word : list) {
                Check.addWord(x, word);
            }
            judge("seed " + seed, x, whole, row, random);
            seen[0]++;
            for (int k = 0; k < 25; k++) {
                String other = spoiled(row, random, k);
                SlowOpen judged = new SlowOpen(words, other);
                BrotliWords y = new BrotliWords();
                for (String word : list) {
                    Check.addWord(y, word);
                }
                judge("seed " + seed + " spoiled " + k, y, judged, other, random);
                seen[judged.answer < 0 ? -judged.answer - 10 : 0]++;
            }
        }
        StringBuilder tally = new StringBuilder("rules seen:");
        for (int rule = 0; rule <= 17; rule++) {
            tally.append(' ').append(rule).append('=').append(seen[rule]);
        }
        System.out.println(tally);
        Check.finish();
    }

    private static List<String> chanceWords(Random random) {
        List<String> list = new ArrayList<>();
        int many = random.nextInt(3) == 0 ? 0 : random.nextInt(40);
        for (int i = 0; i < many; i++) {
            list.add(Check.randomText(random, 4 + random.nextInt(7), 26));
        }
        return list;
    }

    private static String spoiled(String row, Random random, int k) {
        StringBuilder b = new StringBuilder(row);
        if (k == 0) {
            return b.append("00000000").toString();
        }
        if (k < 4) {
            return b.substring(0, random.nextInt(row.length() / 8 + 1) * 8);
        }
        int flips = 1 + random.nextInt(3);
        for (int i = 0; i < flips; i++) {
            // Most bits that tell a RULE stand near the start.
            int bound = random.nextBoolean() ? row.length() : Math.min(row.length(), 400);
            int at = 16 + random.nextInt(Math.max(bound - 16, 1));
            if (at < row.length()) {
                b.setCharAt(at, (char) ('0' + '1' - b.charAt(at)));
            }
        }
        return b.toString();
    }

    private static void judge(String name, BrotliWords x, SlowOpen due, String row, Random random) {
        byte[] bytes = new Bits().plain(row).bytes();
        Check.feedAll(x, bytes);
        Check.due(name + ": tape", x.count(1), bytes.length);
        Check.due(name + ": open()", x.open(), due.answer);
        Check.due(name + ": read()", x.read(), due.at);
        Check.due(name + ": count(1)", x.count(1), 0);
        int size = Math.max(due.answer, 0);
        Check.due(name + ": count(2)", x.count(2), size);
        for (int i = 0; i < size; i++) {
            Check.due(name + ": out(" + i + ")", x.out(i), due.out.get(i));
        }
        Check.due(name + ": out(size)", x.out(size), -1);
        for (int i = 0; i < 4; i++) {
            Check.due(name + ": ring(" + i + ")", x.ring(i), due.ring.get(i));
        }
        Check.due(name + ": count(3)", x.count(3), due.parts.size());
        for (int i = 0; i < Math.min(due.parts.size(), 60); i++) {
            for (int what = 0; what < 12; what++) {
                Check.due(name + ": part(" + i + ", " + what + ")", x.part(i, what), due.parts.get(i)[what]);
            }
        }
        Check.due(name + ": part(count, 0)", x.part(Math.min(due.parts.size(), 60), 0), -1);
        if (due.told == null) {
            Check.due(name + ": map(0, 0)", x.map(0, 0), -1);
            Check.due(name + ": length(1, 0, 0)", x.length(1, 0, 0), -1);
        } else {
            judgeHead(name, x, due.told, random);
        }
    }

    private static void judgeHead(String name, BrotliWords x, SlowOpen.Head head, Random random) {
        for (int sort = 0; sort < 2; sort++) {
            int n = head.maps[sort].length;
            for (int i = 0; i < n; i++) {
                Check.due(name + ": map(" + sort + ", " + i + ")", x.map(sort, i), head.maps[sort][i]);
            }
            Check.due(name + ": map(" + sort + ", n)", x.map(sort, n), -1);
        }
        int[] signs = {256, 704, head.distanceSigns};
        for (int sort = 0; sort < 3; sort++) {
            int trees = head.codes.get(sort).size();
            for (int tree = 0; tree < trees; tree++) {
                SlowOpen.Code code = head.codes.get(sort).get(tree);
                for (int sign = 0; sign < signs[sort]; sign++) {
                    Check.due(name + ": length(" + sort + ", " + tree + ", " + sign + ")",
                        x.length(sort, tree, sign), code.lengths.getOrDefault(sign, 0));
                }
            }
            Check.due(name + ": length, no tree", x.length(sort, trees, 0), -1);
            Check.due(name + ": length, no sign", x.length(sort, random.nextInt(trees), signs[sort]), -1);
        }
    }
}
