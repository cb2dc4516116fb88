import java.util.ArrayList;
import java.util.List;
import java.util.TreeMap;

/** Packing as the document tells it, written plainly and apart from the class, to judge it by. */
final class SlowPack {
    final SlowWords words;
    final String tape;
    final Bits bits = new Bits();
    /** INSERT, COPY, DISTANCE, sign, distance's sign (- 1: not written), bytes that are made. */
    final List<int[]> commands = new ArrayList<>();
    private final int[] ways;
    private final int[] copyMade;
    private final int[] copyBack;
    private final int[] wordMade;
    private final int[][] word;

    SlowPack(SlowWords words, String tape, int level) {
        this.words = words;
        this.tape = tape;
        int n = tape.length();
        ways = new int[n];
        copyMade = new int[n];
        copyBack = new int[n];
        wordMade = new int[n];
        word = new int[n][];
        bits.number(words.digest(), 16).number(0, 1);
        if (level == 0) {
            if (n > 0) {
                bits.plain("0 00").number(n - 1, 16).plain("1").text(tape);
            }
            bits.plain("11");
        } else if (n == 0) {
            bits.plain("11");
        } else {
            for (int p = 0; p < n; p++) {
                findCopy(p);
                findWord(p);
            }
            if (level == 1) {
                greedy();
            } else {
                cheapest();
            }
            list();
            write();
        }
        bits.toWholeByte();
    }

    private void findCopy(int p) {
        for (int from = p - 1; from >= 0; from--) {
            int m = 0;
            while (m < 200 && p + m < tape.length() && tape.charAt(from + m) == tape.charAt(p + m)) {
                m++;
            }
            if (m >= 4 && m > copyMade[p]) {
                copyMade[p] = m;
                copyBack[p] = p - from;
            }
        }
    }

    private void findWord(int p) {
        for (int length = 4; length <= 10; length++) {
            for (int number = 0; number < words.of(length).size(); number++) {
                for (int change = 0; change < 24; change++) {
                    String made = SlowWords.changed(words.of(length).get(number), change);
                    if (made.length() >= 4 && made.length() > wordMade[p] && tape.startsWith(made, p)) {
                        wordMade[p] = made.length();
                        word[p] = new int[] {length, number, change};
                    }
                }
            }
        }
    }

    private int made(int p) {
        return ways[p] == 0 ? 1 : ways[p] == 1 ? copyMade[p] : wordMade[p];
    }

    private void greedy() {
        for (int p = 0; p < tape.length(); p += made(p)) {
            if (copyMade[p] > 0 && copyMade[p] >= wordMade[p]) {
                ways[p] = 1;
            } else if (wordMade[p] > 0) {
                ways[p] = 2;
            }
        }
    }

    private void cheapest() {
        int[] cost = new int[tape.length() + 1];
        for (int p = tape.length() - 1; p >= 0; p--) {
            int[] costs = {9 + cost[p + 1], 24 + cost[p + copyMade[p]], 24 + cost[p + wordMade[p]]};
            int least = costs[0];
            least = copyMade[p] > 0 ? Math.min(least, costs[1]) : least;
            least = wordMade[p] > 0 ? Math.min(least, costs[2]) : least;
            cost[p] = least;
            if (copyMade[p] > 0 && costs[1] == least) {
                ways[p] = 1;
            } else if (wordMade[p] > 0 && costs[2] == least) {
                ways[p] = 2;
            } else {
                ways[p] = 0;
            }
        }
    }

    private static int codeFor(int[][] table, int value) {
        int code = 0;
        while (code + 1 < table.length && table[code + 1][0] <= value) {
            code++;
        }
        return code;
    }

    private void list() {
        List<Integer> ring = new ArrayList<>(List.of(4, 11, 15, 16));
        int insert = 0;
        for (int p = 0; p < tape.length(); p += made(p)) {
            if (ways[p] == 0) {
                insert++;
                continue;
            }
            int copy = copyMade[p];
            int distance = copyBack[p];
            if (ways[p] == 2) {
                copy = word[p][0];
                distance = p + 1 + word[p][1] + word[p][2] * (int) Math.pow(2, words.bits(copy));
            }
            int sign = ring.indexOf(distance);
            if (sign < 0) {
                sign = farSign(distance);
            }
            int c = commandSign(codeFor(SlowOpen.INSERT, insert), codeFor(SlowOpen.COPY, copy), sign, true);
            commands.add(new int[] {insert, copy, distance, c, c < 128 ? -1 : sign, made(p)});
            if (ways[p] == 1 && sign != 0) {
                ring.add(0, distance);
                ring.remove(4);
            }
            insert = 0;
        }
        if (insert > 0) {
            int c = commandSign(codeFor(SlowOpen.INSERT, insert), 0, 0, false);
            commands.add(new int[] {insert, 0, 0, c, -1, 0});
        }
    }

    /** The sign above 15 that means a DISTANCE, found by trying all of them. */
    private static int farSign(int distance) {
        for (int x = 0; x < 48; x++) {
            int n = 1 + x / 2;
            int least = (2 + x % 2) * (1 << n) - 4 + 1;
            if (distance >= least && distance < least + (1 << n)) {
                return 16 + x;
            }
        }
        throw new IllegalStateException("no sign for " + distance);
    }

    private static int commandSign(int insert, int copy, int sign, boolean hasDistance) {
        for (int c = 0; c < 704; c++) {
            int cell = c / 64;
            boolean fits = 8 * SlowOpen.CELL_INSERT[cell] + c / 8 % 8 == insert
                && 8 * SlowOpen.CELL_COPY[cell] + c % 8 == copy;
            if (fits && (cell > 1 || hasDistance && sign == 0)) {
                return c;
            }
        }
        throw new IllegalStateException("no command");
    }

    private void write() {
        int[] literals = new int[256];
        int[] signs = new int[704];
        int[] distances = new int[64];
        int at = 0;
        for (int[] command : commands) {
            signs[command[3]]++;
            for (int i = 0; i < command[0]; i++) {
                literals[tape.charAt(at + i)]++;
            }
            if (command[4] >= 0) {
                distances[command[4]]++;
            }
            at += command[0] + command[5];
        }
        bits.plain("1 0 00").number(tape.length() - 1, 16);
        bits.plain("0 0 0").number(0, 2).number(0, 4).number(0, 2).plain("0 0");
        int[] literalCode = tell(literals);
        int[] commandCode = tell(signs);
        int[] distanceCode = tell(distances);
        at = 0;
        for (int[] command : commands) {
            Weaver.putSign(bits, commandCode, command[3]);
            int[] insert = SlowOpen.INSERT[codeFor(SlowOpen.INSERT, command[0])];
            int[] copy = SlowOpen.COPY[codeFor(SlowOpen.COPY, Math.max(command[1], 2))];
            bits.number(command[0] - insert[0], insert[1]).number(Math.max(command[1], 2) - copy[0], copy[1]);
            for (int i = 0; i < command[0]; i++) {
                Weaver.putSign(bits, literalCode, tape.charAt(at + i));
            }
            if (command[4] >= 0) {
                Weaver.putSign(bits, distanceCode, command[4]);
            }
            if (command[4] >= 16) {
                int x = command[4] - 16;
                int n = 1 + x / 2;
                bits.number(command[2] - ((2 + x % 2) * (1 << n) - 4 + 1), n);
            }
            at += command[0] + command[5];
        }
    }

    /** LENGTHS by joining, the plainest way: look for the two least again and again. */
    static int[] lengths(int[] often, int most) {
        int[] weights = often.clone();
        while (true) {
            int[] lengths = new int[weights.length];
            List<int[]> weightAndAge = new ArrayList<>();
            List<List<Integer>> members = new ArrayList<>();
            for (int s = 0; s < weights.length; s++) {
                if (weights[s] > 0) {
                    weightAndAge.add(new int[] {weights[s]});
                    members.add(new ArrayList<>(List.of(s)));
                }
            }
            while (members.size() > 1) {
                List<Integer> joined = new ArrayList<>();
                int weight = 0;
                for (int k = 0; k < 2; k++) {
                    int least = 0;
                    for (int i = 1; i < members.size(); i++) {
                        if (weightAndAge.get(i)[0] < weightAndAge.get(least)[0]) {
                            least = i;
                        }
                    }
                    weight += weightAndAge.remove(least)[0];
                    joined.addAll(members.remove(least));
                }
                for (int s : joined) {
                    lengths[s]++;
                }
                weightAndAge.add(new int[] {weight});
                members.add(joined);
            }
            boolean good = true;
            for (int s = 0; s < weights.length; s++) {
                good &= lengths[s] <= most;
                weights[s] = weights[s] > 0 ? weights[s] / 2 + 1 : 0;
            }
            if (good) {
                return lengths;
            }
        }
    }

    /** Tells the CODE and gives its LENGTHS; 0 is none. */
    private int[] tell(int[] often) {
        int[] lengths = lengths(often, 15);
        TreeMap<Integer, Integer> order = new TreeMap<>();
        int last = 0;
        for (int s = 0; s < often.length; s++) {
            if (often[s] > 0) {
                order.put(lengths[s] * 1000 + s, s);
                last = s;
            }
        }
        if (order.isEmpty()) {
            order.put(0, 0);
        }
        if (order.size() <= 4) {
            bits.number(1, 2).number(order.size() - 1, 2);
            for (int s : order.values()) {
                bits.number(s, Integer.toBinaryString(often.length - 1).length());
            }
            if (order.size() == 4) {
                bits.plain(order.firstKey() / 1000 == 1 ? "1" : "0");
            }
            return lengths;
        }
        List<int[]> marks = new ArrayList<>();
        for (int s = 0; s <= last;) {
            int zeros = 0;
            while (s + zeros <= last && lengths[s + zeros] == 0) {
                zeros++;
            }
            boolean behind17 = !marks.isEmpty() && marks.get(marks.size() - 1)[0] == 17;
            if (zeros >= 3 && !behind17) {
                marks.add(new int[] {17, Math.min(zeros, 10)});
                s += Math.min(zeros, 10);
            } else {
                marks.add(new int[] {lengths[s], 1});
                s++;
            }
        }
        tellMarks(marks);
        return lengths;
    }

    private void tellMarks(List<int[]> marks) {
        int[] often = new int[18];
        int different = 0;
        for (int[] mark : marks) {
            different += often[mark[0]]++ == 0 ? 1 : 0;
        }
        int[] lengths = lengths(often, 5);
        int[] order = {1, 2, 3, 4, 0, 5, 17, 6, 16, 7, 8, 9, 10, 11, 12, 13, 14, 15};
        String[] told = {"00", "1110", "110", "01", "10", "1111"};
        bits.number(0, 2);
        double sum = 0;
        for (int mark : order) {
            if (sum >= 1) {
                break;
            }
            int n = different == 1 && often[mark] > 0 ? 1 : lengths[mark];
            bits.plain(told[n]);
            sum += n == 0 ? 0 : Math.pow(0.5, n);
        }
        for (int[] mark : marks) {
            Weaver.putSign(bits, lengths, mark[0]);
            if (mark[0] == 17) {
                bits.number(mark[1] - 3, 3);
            }
        }
    }
}
