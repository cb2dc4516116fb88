import java.util.ArrayList;
import java.util.List;
import java.util.Random;

/**
 * Makes rows of bits that can be opened: heads by chance, then COMMANDS by chance, kept as far as
 * SlowOpen finds no RULE broken.
 */
final class Weaver {
    private static final int[] MARK_ORDER = {1, 2, 3, 4, 0, 5, 17, 6, 16, 7, 8, 9, 10, 11, 12, 13, 14, 15};
    private static final String[] MARK_TOLD = {"00", "1110", "110", "01", "10", "1111"};

    final Random random;
    final SlowWords words;

    Weaver(Random random, SlowWords words) {
        this.random = random;
        this.words = words;
    }

    /** A whole row that keeps all RULES. */
    String weave() {
        Bits bits = new Bits();
        bits.number(words.digest(), 16);
        putSpan(bits);
        int parts = random.nextInt(4);
        for (int i = 0; i < parts; i++) {
            putPart(bits);
        }
        String ended = random.nextBoolean() ? null : coded(bits.row.toString(), true);
        if (ended == null) {
            ended = bits.plain("11").row.toString();
        }
        return new Bits().plain(ended).toWholeByte().row.toString();
    }

    private void putSpan(Bits bits) {
        int way = random.nextInt(4);
        if (way == 0) {
            bits.number(0, 1);
        } else if (way == 1) {
            bits.number(1, 1).number(1 + random.nextInt(7), 3);
        } else if (way == 2) {
            bits.number(1, 4).number(0, 3);
        } else {
            bits.number(1, 4).number(2 + random.nextInt(6), 3);
        }
    }

    private void putPart(Bits bits) {
        int way = random.nextInt(8);
        boolean room = new SlowOpen(words, bits.row.toString()).out.size() < 2900;
        if (way == 0 && room) {
            int many = 1 + random.nextInt(40);
            bits.plain("0 00").number(many - 1, 16).plain("1").toWholeByte();
            bits.text(Check.randomText(random, many, 26));
        } else if (way == 1) {
            bits.plain("0 11 0").number(0, 2).toWholeByte();
        } else if (way == 2) {
            int many = 1 + random.nextInt(20);
            bits.plain("0 11 0").number(1, 2).number(many - 1, 8).toWholeByte();
            bits.text(Check.randomText(random, many, 26));
        } else if (way == 3 && random.nextInt(4) == 0) {
            int many = 257 + random.nextInt(20);
            bits.plain("0 11 0").number(2, 2).number(many - 1, 16).toWholeByte();
            bits.text(Check.randomText(random, many, 26));
        } else {
            String more = coded(bits.row.toString(), false);
            if (more != null) {
                bits.row.setLength(0);
                bits.row.append(more);
            }
        }
    }

    /** The row with a CODED PART more, or null if chance made none. */
    private String coded(String row, boolean last) {
        int had = new SlowOpen(words, row).out.size();
        if (had >= 2900) {
            return null;
        }
        String start = row + (last ? "1000" : "000");
        Bits head = new Bits();
        head.plain(last ? "" : "0");
        putHead(head);
        String kept = head.row.toString();
        int most = 3000 - had;
        int goal = had + 1 + random.nextInt(Math.min(most, 800));
        int made = 0;
        for (int tries = 0; tries < 40 && had + made < goal; tries++) {
            StringBuilder more = new StringBuilder(start).append(new Bits().number(most - 1, 16).row).append(kept);
            int chance = 50 + random.nextInt(600);
            for (int i = 0; i < chance; i++) {
                more.append(random.nextInt(2));
            }
            SlowOpen open = new SlowOpen(words, more.toString());
            if (open.stops.isEmpty()) {
                continue;
            }
            int[] stop = open.stops.get(open.stops.size() - 1);
            if (tries % 3 == 2) {
                // Chance may have led to where no command fits: go back a little.
                stop = open.stops.get(random.nextInt(open.stops.size()));
            }
            made = stop[1] - had;
            kept = more.substring(start.length() + 16, stop[0]);
        }
        if (made <= 0) {
            return null;
        }
        String whole = start + new Bits().number(made - 1, 16).row + kept;
        if (whole.length() > 2300 * 8) {
            return null;
        }
        return whole;
    }

    private int few(int most) {
        return random.nextInt(3) > 0 ? 1 : 1 + random.nextInt(most);
    }

    private void putHowMany(Bits bits, int many) {
        if (many == 1) {
            bits.number(0, 1);
            return;
        }
        int n = 0;
        while (1 + (2 << n) <= many) {
            n++;
        }
        bits.number(1, 1).number(n, 3).number(many - 1 - (1 << n), n);
    }

    private void putHead(Bits bits) {
        int[] kinds = new int[3];
        for (int sort = 0; sort < 3; sort++) {
            kinds[sort] = few(12);
            putHowMany(bits, kinds[sort]);
            if (kinds[sort] > 1) {
                putCode(bits, kinds[sort] + 2, chanceLengths(kinds[sort] + 2, all(kinds[sort] + 2)));
                int[] lengths = chanceLengths(26, range(0, random.nextBoolean() ? 4 : 20));
                putCode(bits, 26, lengths);
                putSign(bits, lengths);
            }
        }
        int postfix = random.nextInt(4);
        int direct = random.nextBoolean() ? 0 : random.nextInt(16);
        bits.number(postfix, 2).number(direct, 4);
        for (int k = 0; k < kinds[0]; k++) {
            bits.number(random.nextInt(4), 2);
        }
        int literalTrees = few(12);
        putHowMany(bits, literalTrees);
        putMap(bits, literalTrees, 64 * kinds[0]);
        int distanceTrees = few(12);
        putHowMany(bits, distanceTrees);
        putMap(bits, distanceTrees, 4 * kinds[2]);
        for (int t = 0; t < literalTrees; t++) {
            putCode(bits, 256, chanceLengths(256, all(256)));
        }
        for (int k = 0; k < kinds[1]; k++) {
            putCode(bits, 704, chanceLengths(704, goodCommands()));
        }
        int signs = 16 + (direct << postfix) + (48 << postfix);
        for (int t = 0; t < distanceTrees; t++) {
            int bound = random.nextInt(3) == 0 ? signs : Math.min(signs, 16 + (direct << postfix) + (20 << postfix));
            putCode(bits, signs, chanceLengths(signs, all(bound)));
        }
    }

    private static List<Integer> all(int n) {
        return range(0, n);
    }

    private static List<Integer> range(int from, int to) {
        List<Integer> signs = new ArrayList<>();
        for (int s = from; s < to; s++) {
            signs.add(s);
        }
        return signs;
    }

    /** Commands of which not all are too long for a PART. */
    private List<Integer> goodCommands() {
        if (random.nextInt(4) == 0) {
            return all(704);
        }
        List<Integer> signs = new ArrayList<>();
        for (int c = 0; c < 704; c++) {
            int cell = c / 64;
            int insert = 8 * SlowOpen.CELL_INSERT[cell] + c / 8 % 8;
            int copy = 8 * SlowOpen.CELL_COPY[cell] + c % 8;
            if (insert < 14 && copy < 14) {
                signs.add(c);
            }
        }
        return signs;
    }

    /** LENGTHS of a whole CODE for some of the signs, by chance. */
    private int[] chanceLengths(int a, List<Integer> from) {
        int used = 1 + random.nextInt(random.nextInt(3) == 0 ? 5 : Math.min(from.size(), 60));
        used = Math.min(used, from.size());
        List<Integer> leaves = new ArrayList<>(List.of(0));
        boolean steep = random.nextInt(3) == 0;
        while (leaves.size() < used) {
            int at = steep ? leaves.size() - 1 : random.nextInt(leaves.size());
            int depth = leaves.get(at);
            if (depth == 15) {
                steep = false;
                continue;
            }
            leaves.set(at, depth + 1);
            leaves.add(depth + 1);
        }
        List<Integer> signs = new ArrayList<>(from);
        java.util.Collections.shuffle(signs, random);
        int[] lengths = new int[a];
        java.util.Arrays.fill(lengths, -1);
        for (int i = 0; i < used; i++) {
            lengths[signs.get(i)] = leaves.get(i);
        }
        return lengths;
    }

    private void putMap(Bits bits, int trees, int n) {
        if (trees == 1) {
            return;
        }
        int runs = random.nextBoolean() ? 0 : 1 + random.nextInt(random.nextBoolean() ? 16 : 4);
        bits.number(runs == 0 ? 0 : 1, 1);
        if (runs > 0) {
            bits.number(runs - 1, 4);
        }
        int[] lengths = chanceLengths(trees + runs, all(trees + runs));
        boolean hasOne = false;
        for (int s = 0; s < lengths.length; s++) {
            hasOne |= lengths[s] >= 0 && (s == 0 || s > runs);
        }
        if (!hasOne) {
            lengths = new int[trees + runs];
            java.util.Arrays.fill(lengths, -1);
            lengths[0] = 1;
            lengths[trees + runs - 1] = 1;
        }
        putCode(bits, trees + runs, lengths);
        int at = 0;
        while (at < n) {
            int sign = chanceSign(lengths);
            if (sign == 0 || sign > runs) {
                putSign(bits, lengths, sign);
                at++;
            } else if (at + (1 << sign) <= n) {
                int more = Math.min(random.nextInt(1 << sign), n - at - (1 << sign));
                putSign(bits, lengths, sign);
                bits.number(more, sign);
                at += (1 << sign) + more;
            }
        }
        bits.number(random.nextInt(2), 1);
    }

    private int chanceSign(int[] lengths) {
        while (true) {
            int s = random.nextInt(lengths.length);
            if (lengths[s] >= 0) {
                return s;
            }
        }
    }

    /** A COUNT by chance: its sign and more bits. */
    private void putSign(Bits bits, int[] lengths) {
        int sign = chanceSign(lengths);
        putSign(bits, lengths, sign);
        bits.number(random.nextInt(4), SlowOpen.COUNT[sign][1]);
    }

    static void putSign(Bits bits, int[] lengths, int sign) {
        int code = 0;
        int size = 0;
        boolean any = false;
        for (int n = 1; n <= 15; n++) {
            for (int s = 0; s < lengths.length; s++) {
                if (lengths[s] == n) {
                    code = any ? code + 1 << n - size : 0;
                    any = true;
                    size = n;
                    if (s == sign) {
                        for (int k = n - 1; k >= 0; k--) {
                            bits.number(code >> k & 1, 1);
                        }
                    }
                }
            }
        }
    }

    /** Tells a CODE; - 1 is no LENGTH, 0 that of a lone sign. */
    void putCode(Bits bits, int a, int[] lengths) {
        List<Integer> signs = new ArrayList<>();
        for (int n = 0; n <= 15; n++) {
            for (int s = 0; s < a; s++) {
                if (lengths[s] == n) {
                    signs.add(s);
                }
            }
        }
        int width = Integer.toBinaryString(a - 1).length();
        if (signs.size() == 1 || signs.size() <= 4 && random.nextBoolean()) {
            bits.number(1, 2).number(signs.size() - 1, 2);
            for (int s : signs) {
                bits.number(s, width);
            }
            if (signs.size() == 4) {
                bits.number(lengths[signs.get(0)] == 1 ? 1 : 0, 1);
            }
            return;
        }
        putAtLength(bits, a, lengths);
    }

    private void putAtLength(Bits bits, int a, int[] lengths) {
        List<int[]> marks = new ArrayList<>();
        int last = a - 1;
        while (lengths[last] < 0) {
            last--;
        }
        int latest = 8;
        for (int s = 0; s <= last;) {
            int n = Math.max(lengths[s], 0);
            int run = 1;
            while (s + run <= last && Math.max(lengths[s + run], 0) == n) {
                run++;
            }
            boolean zero = n == 0;
            if (run >= 3 && (zero || n == latest) && random.nextInt(5) > 0) {
                int use = random.nextBoolean() ? run : 3 + random.nextInt(run - 2);
                addRun(marks, zero ? 17 : 16, use);
                // A mark of the same sort right behind would go on with this run: keep them apart.
                s += use;
                if (s <= last && Math.max(lengths[s], 0) == n) {
                    marks.add(new int[] {n, 0, 0});
                    s++;
                }
            } else {
                marks.add(new int[] {n, 0, 0});
                latest = n > 0 ? n : latest;
                s++;
            }
        }
        putMarks(bits, marks);
    }

    /** A run as one mark, or as several of which each goes on with the one before. */
    private void addRun(List<int[]> marks, int mark, int run) {
        int base = mark == 16 ? 4 : 8;
        int width = mark == 16 ? 2 : 3;
        List<Integer> digits = new ArrayList<>();
        int left = run - 3;
        digits.add(left % base);
        left /= base;
        while (left > 0) {
            left--;
            digits.add(left % base);
            left /= base;
        }
        for (int i = digits.size() - 1; i >= 0; i--) {
            marks.add(new int[] {mark, digits.get(i), width});
        }
    }

    private void putMarks(Bits bits, List<int[]> marks) {
        java.util.TreeSet<Integer> used = new java.util.TreeSet<>();
        for (int[] mark : marks) {
            used.add(mark[0]);
        }
        int[] lengths = new int[18];
        java.util.Arrays.fill(lengths, -1);
        if (used.size() == 1) {
            lengths[used.first()] = 1 + random.nextInt(5);
        } else {
            List<Integer> leaves = new ArrayList<>(List.of(0));
            while (leaves.size() < used.size()) {
                int at = random.nextInt(leaves.size());
                int depth = leaves.get(at);
                if (depth < 5) {
                    leaves.set(at, depth + 1);
                    leaves.add(depth + 1);
                }
            }
            int i = 0;
            for (int mark : used) {
                lengths[mark] = leaves.get(i++);
            }
        }
        int h = lengths[1] < 0 && lengths[2] < 0 ? lengths[3] < 0 ? 3 : 2 : 0;
        h = random.nextBoolean() ? h : 0;
        bits.number(h, 2);
        int sum = 0;
        for (int k = h; k < 18 && sum < 32; k++) {
            int n = Math.max(lengths[MARK_ORDER[k]], 0);
            bits.plain(MARK_TOLD[n]);
            sum += n == 0 ? 0 : 32 >> n;
        }
        for (int[] mark : marks) {
            if (used.size() > 1) {
                putSign(bits, lengths, mark[0]);
            }
            bits.number(mark[1], mark[2]);
        }
    }
}
