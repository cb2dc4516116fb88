import java.util.ArrayList;
import java.util.HashMap;
import java.util.List;
import java.util.Map;
import java.util.TreeMap;

/** Opening as the document tells it, written plainly and apart from the class, to judge it by. */
final class SlowOpen {
    /** A RULE that is broken. */
    static final class Broken extends RuntimeException {
        private static final long serialVersionUID = 1;
        final int rule;

        Broken(int rule) {
            super("rule " + rule, null, false, false);
            this.rule = rule;
        }
    }

    /** A CODE: the bits of each sign, and its LENGTH. */
    static final class Code {
        final Map<String, Integer> signs = new HashMap<>();
        final Map<Integer, Integer> lengths = new HashMap<>();
    }

    /** What a PART tells ahead of its COMMANDS. */
    static final class Head {
        final int[] kinds = new int[3];
        final int[] trees = {1, 1};
        final List<List<Code>> codes = List.of(new ArrayList<>(), new ArrayList<>(), new ArrayList<>());
        int[][] maps = new int[2][];
        int[] modes;
        int postfix;
        int direct;
        int distanceSigns;
    }

    /** The KINDS of one SORT. */
    private static final class Turn {
        int kinds;
        int now = 0;
        int before = 1;
        long left;
        Code first;
        Code second;
    }

    static final int[][] INSERT = table("0 0,1 0,2 0,3 0,4 0,5 0,6 1,8 1,10 2,14 2,18 3,26 3,34 4,50 4,66 5,98 5,"
        + "130 6,194 7,322 8,578 9,1090 10,2114 12,6210 14,22594 24");
    static final int[][] COPY = table("2 0,3 0,4 0,5 0,6 0,7 0,8 0,9 0,10 1,12 1,14 2,18 2,22 3,30 3,38 4,54 4,"
        + "70 5,102 5,134 6,198 7,326 8,582 9,1094 10,2118 24");
    static final int[][] COUNT = table("1 2,5 2,9 2,13 2,17 3,25 3,33 3,41 3,49 4,65 4,81 4,97 4,113 5,145 5,177 5,"
        + "209 5,241 6,305 6,369 7,497 8,753 9,1265 10,2289 11,4337 12,8433 13,16625 24");
    static final int[] CELL_INSERT = {0, 0, 0, 0, 1, 1, 0, 2, 1, 2, 2};
    static final int[] CELL_COPY = {0, 1, 0, 1, 0, 1, 2, 0, 2, 1, 2};

    final SlowWords words;
    final String row;
    final int limit;
    int at = 0;
    final List<Integer> out = new ArrayList<>();
    final List<int[]> parts = new ArrayList<>();
    final List<Integer> ring = new ArrayList<>(List.of(4, 11, 15, 16));
    Head told = null;
    int answer;
    /** Where the latest PART could end: bits read and bytes of OUT, behind literals and behind copies. */
    final List<int[]> stops = new ArrayList<>();
    int partStart;
    private int span;
    private Turn[] turns;
    private Head head;

    SlowOpen(SlowWords words, String row) {
        this.words = words;
        this.row = row;
        limit = row.length();
        try {
            all();
            answer = out.size();
        } catch (Broken broken) {
            answer = -10 - broken.rule;
            at = broken.rule == 1 ? limit : at;
        }
    }

    private static int[][] table(String text) {
        String[] pairs = text.split(",");
        int[][] table = new int[pairs.length][];
        for (int i = 0; i < pairs.length; i++) {
            String[] pair = pairs[i].split(" ");
            table[i] = new int[] {Integer.parseInt(pair[0]), Integer.parseInt(pair[1])};
        }
        return table;
    }

    private void ask(boolean good, int rule) {
        if (!good) {
            throw new Broken(rule);
        }
    }

    private int bits(int n) {
        ask(at + n <= limit, 1);
        int v = 0;
        for (int k = n - 1; k >= 0; k--) {
            v = v * 2 + (row.charAt(at + k) - '0');
        }
        at += n;
        return v;
    }

    private void wholeByte() {
        boolean zeros = true;
        while (at % 8 != 0) {
            zeros &= bits(1) == 0;
        }
        ask(zeros, 6);
    }

    private void all() {
        ask(bits(16) == words.digest(), 2);
        if (bits(1) == 0) {
            span = 16;
        } else {
            int w = bits(3);
            if (w != 0) {
                span = 17 + w;
            } else {
                int v = bits(3);
                ask(v != 1, 3);
                span = v == 0 ? 17 : 8 + v;
            }
        }
        boolean last = false;
        while (!last) {
            last = part();
        }
        wholeByte();
        ask(at == limit, 16);
    }

    private boolean part() {
        boolean last = bits(1) == 1;
        if (last && bits(1) == 1) {
            parts.add(new int[12]);
            return true;
        }
        int k = bits(2);
        if (k == 3) {
            ask(!last, 4);
            passOver();
            return false;
        }
        int nibble = 0;
        int size = 1;
        for (int i = 0; i < 4 + k; i++) {
            nibble = bits(4);
            size += nibble << 4 * i;
        }
        ask(k == 0 || nibble != 0, 5);
        ask(out.size() + size <= 3000, 17);
        boolean raw = !last && bits(1) == 1;
        int[] mine = new int[12];
        mine[0] = raw ? 2 : 3;
        mine[1] = size;
        parts.add(mine);
        if (raw) {
            wholeByte();
            for (int i = 0; i < size; i++) {
                out.add(bits(8));
            }
        } else {
            coded(mine);
        }
        return last;
    }

    private void passOver() {
        int[] mine = new int[12];
        mine[0] = 1;
        parts.add(mine);
        ask(bits(1) == 0, 4);
        int s = bits(2);
        int number = 0;
        int b = 0;
        for (int i = 0; i < s; i++) {
            b = bits(8);
            number += b << 8 * i;
        }
        ask(s < 2 || b != 0, 5);
        mine[1] = s == 0 ? 0 : number + 1;
        wholeByte();
        for (int i = 0; i < mine[1]; i++) {
            bits(8);
        }
    }

    private int howMany() {
        if (bits(1) == 0) {
            return 1;
        }
        int n = bits(3);
        int many = 1 + (int) Math.pow(2, n) + bits(n);
        ask(many <= 12, 7);
        return many;
    }

    private void coded(int[] mine) {
        partStart = out.size();
        stops.clear();
        head = new Head();
        turns = new Turn[3];
        for (int sort = 0; sort < 3; sort++) {
            Turn turn = new Turn();
            turn.kinds = head.kinds[sort] = mine[2 + sort] = howMany();
            if (turn.kinds > 1) {
                turn.first = code(turn.kinds + 2);
                turn.second = code(26);
                turn.left = told(COUNT, sign(turn.second));
            }
            turns[sort] = turn;
        }
        head.postfix = mine[7] = bits(2);
        head.direct = mine[8] = bits(4) * (int) Math.pow(2, head.postfix);
        head.distanceSigns = 16 + head.direct + 48 * (int) Math.pow(2, head.postfix);
        head.modes = new int[head.kinds[0]];
        for (int i = 0; i < head.modes.length; i++) {
            head.modes[i] = bits(2);
        }
        for (int sort = 0; sort < 2; sort++) {
            head.trees[sort] = mine[5 + sort] = howMany();
            int n = sort == 0 ? 64 * head.kinds[0] : 4 * head.kinds[2];
            head.maps[sort] = head.trees[sort] > 1 ? map(n, head.trees[sort]) : new int[n];
        }
        int[] codes = {head.trees[0], head.kinds[1], head.trees[1]};
        int[] signs = {256, 704, head.distanceSigns};
        for (int sort = 0; sort < 3; sort++) {
            for (int i = 0; i < codes[sort]; i++) {
                head.codes.get(sort).add(code(signs[sort]));
            }
        }
        told = head;
        while (out.size() < partStart + mine[1]) {
            command(mine);
        }
    }

    private int told(int[][] table, int code) {
        return table[code][0] + bits(table[code][1]);
    }

    private int[] map(int n, int trees) {
        int runs = bits(1) == 0 ? 0 : bits(4) + 1;
        Code code = code(trees + runs);
        List<Integer> numbers = new ArrayList<>();
        while (numbers.size() < n) {
            int sign = sign(code);
            if (sign == 0) {
                numbers.add(0);
            } else if (sign <= runs) {
                int many = (int) Math.pow(2, sign) + bits(sign);
                ask(numbers.size() + many <= n, 15);
                for (int i = 0; i < many; i++) {
                    numbers.add(0);
                }
            } else {
                numbers.add(sign - runs);
            }
        }
        if (bits(1) == 1) {
            List<Integer> front = new ArrayList<>();
            for (int t = 0; t < trees; t++) {
                front.add(t);
            }
            for (int i = 0; i < n; i++) {
                Integer value = front.remove((int) numbers.get(i));
                front.add(0, value);
                numbers.set(i, value);
            }
        }
        return numbers.stream().mapToInt(Integer::intValue).toArray();
    }

    private Code code(int a) {
        int h = bits(2);
        Map<Integer, Integer> lengths = new TreeMap<>();
        if (h != 1) {
            atLength(h, a, lengths);
            return canonical(lengths);
        }
        int many = bits(2) + 1;
        int width = Integer.toBinaryString(a - 1).length();
        List<Integer> signs = new ArrayList<>();
        for (int i = 0; i < many; i++) {
            int sign = bits(width);
            ask(sign < a && !signs.contains(sign), 12);
            signs.add(sign);
        }
        String[] shapes = {"0", "11", "122", "2222", "1233"};
        String shape = shapes[many - 1 + (many == 4 ? bits(1) : 0)];
        for (int i = 0; i < many; i++) {
            lengths.put(signs.get(i), shape.charAt(i) - '0');
        }
        return canonical(lengths);
    }

    private void atLength(int h, int a, Map<Integer, Integer> lengths) {
        int[] order = {1, 2, 3, 4, 0, 5, 17, 6, 16, 7, 8, 9, 10, 11, 12, 13, 14, 15};
        Map<String, Integer> told = Map.of("00", 0, "01", 3, "10", 4, "110", 2, "1110", 1, "1111", 5);
        Map<Integer, Integer> marks = new TreeMap<>();
        int sum = 0;
        for (int i = h; i < 18 && sum < 32; i++) {
            String s = "";
            while (!told.containsKey(s)) {
                s += bits(1);
            }
            int n = told.get(s);
            if (n > 0) {
                marks.put(order[i], n);
                sum += 32 / (int) Math.pow(2, n);
                ask(sum <= 32, 13);
            }
        }
        ask(marks.size() == 1 || sum == 32, 13);
        if (marks.size() == 1) {
            marks.replaceAll((mark, n) -> 0);
        }
        Code code = canonical(marks);
        int next = 0;
        int all = 0;
        int latest = 8;
        int before = -1;
        int r = 0;
        while (all < 32768 && next < a) {
            int mark = sign(code);
            int many = 1;
            int n = mark;
            if (mark >= 16) {
                int more = bits(mark - 14);
                int total = mark == before ? (mark == 16 ? 4 : 8) * (r - 2) + 3 + more : 3 + more;
                many = mark == before ? total - r : total;
                r = total;
                n = mark == 16 ? latest : 0;
            }
            before = mark;
            latest = n > 0 ? n : latest;
            ask(next + many <= a, 14);
            for (int i = 0; i < many; i++, next++) {
                if (n > 0) {
                    lengths.put(next, n);
                    all += 32768 / (int) Math.pow(2, n);
                }
            }
            ask(all <= 32768, 14);
        }
        ask(all == 32768, 14);
    }

    private static Code canonical(Map<Integer, Integer> lengths) {
        Code code = new Code();
        code.lengths.putAll(lengths);
        long value = -1;
        int size = 0;
        for (int n = 0; n <= 15; n++) {
            for (Map.Entry<Integer, Integer> entry : lengths.entrySet()) {
                if (entry.getValue() == n) {
                    value = value + 1 << n - size;
                    size = n;
                    String text = Long.toBinaryString(value | 1L << n).substring(1);
                    code.signs.put(text, entry.getKey());
                }
            }
        }
        return code;
    }

    private int sign(Code code) {
        StringBuilder s = new StringBuilder();
        while (!code.signs.containsKey(s.toString())) {
            s.append(bits(1));
        }
        return code.signs.get(s.toString());
    }

    /** The KIND for what is read next. */
    private int kind(int sort) {
        Turn turn = turns[sort];
        if (turn.kinds == 1) {
            return 0;
        }
        if (turn.left == 0) {
            int t = sign(turn.first);
            int next = t == 0 ? turn.before : t == 1 ? (turn.now + 1) % turn.kinds : t - 2;
            turn.before = turn.now;
            turn.now = next;
            turn.left = told(COUNT, sign(turn.second));
        }
        turn.left--;
        return turn.now;
    }

    private void command(int[] mine) {
        int end = partStart + mine[1];
        int c = sign(head.codes.get(1).get(kind(1)));
        int cell = c / 64;
        int insert = told(INSERT, 8 * CELL_INSERT[cell] + c / 8 % 8);
        int copy = told(COPY, 8 * CELL_COPY[cell] + c % 8);
        mine[9]++;
        ask(out.size() + insert <= end, 8);
        for (int i = 0; i < insert; i++) {
            literal();
        }
        if (insert > 0) {
            stops.add(new int[] {at, out.size()});
        }
        if (out.size() == end) {
            return;
        }
        int sign = 0;
        if (cell > 1) {
            int kind = kind(2);
            sign = sign(head.codes.get(2).get(head.maps[1][4 * kind + Math.min(copy - 2, 3)]));
        }
        int distance = distance(sign);
        ask(distance > 0, 9);
        int most = Math.min((int) Math.pow(2, span) - 16, out.size());
        if (distance <= most) {
            ask(out.size() + copy <= end, 8);
            for (int i = 0; i < copy; i++) {
                out.add(out.get(out.size() - distance));
            }
            if (sign != 0) {
                ring.add(0, distance);
                ring.remove(4);
            }
            mine[10]++;
        } else {
            word(copy, distance - most - 1, end);
            mine[11]++;
        }
        stops.add(new int[] {at, out.size()});
    }

    private void word(int length, int y, int end) {
        List<String> all = words.of(length);
        int power = (int) Math.pow(2, words.bits(length));
        ask(y % power < all.size(), 10);
        ask(y / power < 24, 11);
        String made = SlowWords.changed(all.get(y % power), y / power);
        ask(out.size() + made.length() <= end, 8);
        for (char c : made.toCharArray()) {
            out.add((int) c);
        }
    }

    private int distance(int sign) {
        if (sign < 16) {
            int[] from = {0, 1, 2, 3, 0, 0, 0, 0, 0, 0, 1, 1, 1, 1, 1, 1};
            int[] and = {0, 0, 0, 0, -1, 1, -2, 2, -3, 3, -1, 1, -2, 2, -3, 3};
            return ring.get(from[sign]) + and[sign];
        }
        if (sign <= 15 + head.direct) {
            return sign - 15;
        }
        int power = (int) Math.pow(2, head.postfix);
        int x = sign - head.direct - 16;
        int n = 1 + x / (2 * power);
        int e = bits(n);
        return ((2 + x / power % 2) * (int) Math.pow(2, n) - 4 + e) * power + x % power + head.direct + 1;
    }

    private void literal() {
        int kind = kind(0);
        int p = out.isEmpty() ? 0 : out.get(out.size() - 1);
        int q = out.size() < 2 ? 0 : out.get(out.size() - 2);
        int context = switch (head.modes[kind]) {
            case 0 -> p % 64;
            case 1 -> p / 4;
            case 2 -> first(p) | second(q);
            default -> 8 * size(p) + size(q);
        };
        out.add(sign(head.codes.get(0).get(head.maps[0][64 * kind + context])));
    }

    static int first(int p) {
        if (p > 127) {
            return p > 191 ? p % 2 + 2 : p % 2;
        }
        String[] rows = {"4\t\n\r", "8 ", "16\"'", "20%", "24(<[{", "28)>]}", "32,:;", "36.", "40="};
        for (String one : rows) {
            int digits = one.charAt(1) >= '0' && one.charAt(1) <= '9' ? 2 : 1;
            if (one.indexOf((char) p, digits) >= 0) {
                return Integer.parseInt(one.substring(0, digits));
            }
        }
        if (p >= 48 && p <= 57) {
            return 44;
        }
        if (p >= 65 && p <= 90) {
            return "AEIOU".indexOf((char) p) >= 0 ? 48 : 52;
        }
        if (p >= 97 && p <= 122) {
            return "aeiou".indexOf((char) p) >= 0 ? 56 : 60;
        }
        return p < 32 || p == 127 ? 0 : 12;
    }

    static int second(int q) {
        if (q >= 97 && q <= 122) {
            return 3;
        }
        if (q >= 48 && q <= 57 || q >= 65 && q <= 90 || q >= 192) {
            return 2;
        }
        return q >= 32 && q < 127 ? 1 : 0;
    }

    static int size(int b) {
        int[] to = {0, 15, 63, 127, 191, 239, 254, 255};
        int k = 0;
        while (b > to[k]) {
            k++;
        }
        return k;
    }
}
