import java.util.Arrays;

/**
 * Bytes packed with words that are told: packing by what is longest or costs least, and an
 * opening that judges each bit. The document's names (TAPE, OUT, PART, KIND, TREE ..) are used
 * in the comments as the document uses them.
 */
public final class BrotliWords {
    public static final int BAD = -1, NONE = -2, FULL = -3;

    private static final int TAPE_MOST = 2400;
    private static final int OPEN_MOST = 3000;
    private static final int PACK_MOST = 2000;
    // A packed row is never this long: 2,000 literals of 9 bits and three codes stay below it.
    private static final int OUT_ROOM = 4096;
    private static final int LEAST_WORD = 4, LONGEST_WORD = 10, WORDS_MOST = 32, CHANGES = 24;
    private static final int WORD_ROOM = (LONGEST_WORD - LEAST_WORD + 1) * WORDS_MOST;
    private static final int KINDS_MOST = 12;
    private static final int LITERALS = 256, COMMANDS = 704, NEAR = 16, FAR = 48;
    private static final int DISTANCES_MOST = NEAR + 15 * 8 + FAR * 8;
    private static final int COUNTS = 26, MARKS = 18;
    private static final int LONGEST_CODE = 15, LONGEST_MARK = 5, WHOLE = 32768, WHOLE_MARKS = 32;
    private static final int EMPTY = 0, PASSED = 1, RAW = 2, CODED = 3;
    private static final int PARTS_TOLD = 60, PART_WHATS = 12;
    private static final int BLANK = 32, COMMA = 44;

    private static final int[] CELL_INSERT = {0, 0, 0, 0, 1, 1, 0, 2, 1, 2, 2};
    private static final int[] CELL_COPY = {0, 1, 0, 1, 0, 1, 2, 0, 2, 1, 2};
    private static final int[] INSERT_BASE = {
        0, 1, 2, 3, 4, 5, 6, 8, 10, 14, 18, 26, 34, 50, 66, 98,
        130, 194, 322, 578, 1090, 2114, 6210, 22594};
    private static final int[] INSERT_BITS = {
        0, 0, 0, 0, 0, 0, 1, 1, 2, 2, 3, 3, 4, 4, 5, 5, 6, 7, 8, 9, 10, 12, 14, 24};
    private static final int[] COPY_BASE = {
        2, 3, 4, 5, 6, 7, 8, 9, 10, 12, 14, 18, 22, 30, 38, 54,
        70, 102, 134, 198, 326, 582, 1094, 2118};
    private static final int[] COPY_BITS = {
        0, 0, 0, 0, 0, 0, 0, 0, 1, 1, 2, 2, 3, 3, 4, 4, 5, 5, 6, 7, 8, 9, 10, 24};
    private static final int[] COUNT_BASE = {
        1, 5, 9, 13, 17, 25, 33, 41, 49, 65, 81, 97, 113, 145, 177, 209,
        241, 305, 369, 497, 753, 1265, 2289, 4337, 8433, 16625};
    private static final int[] COUNT_BITS = {
        2, 2, 2, 2, 3, 3, 3, 3, 4, 4, 4, 4, 5, 5, 5, 5, 6, 6, 7, 8, 9, 10, 11, 12, 13, 24};
    private static final int[] MARK_ORDER = {
        1, 2, 3, 4, 0, 5, 17, 6, 16, 7, 8, 9, 10, 11, 12, 13, 14, 15};
    // How a mark's LENGTH 0 .. 5 is told: the bits, the first one lowest, and how many they are.
    private static final int[] MARK_TOLD = {0, 7, 3, 2, 1, 15};
    private static final int[] MARK_TOLD_BITS = {2, 4, 3, 2, 2, 4};

    private final Bytes tape;
    private final Bytes made;
    private final Words words;
    private final Opener opener;
    private final Packer packer;

    public BrotliWords() {
        tape = new Bytes(TAPE_MOST);
        made = new Bytes(OUT_ROOM);
        words = new Words();
        opener = new Opener(tape, made, words);
        packer = new Packer(tape, made, words);
    }

    public int feed(int a, int b, int c, int d, int e) {
        if (tape.size + 20 > TAPE_MOST) {
            return FULL;
        }
        tape.addNumber(a);
        tape.addNumber(b);
        tape.addNumber(c);
        tape.addNumber(d);
        tape.addNumber(e);
        return tape.size;
    }

    public int end(int n) {
        if (n < 0 || n > 20 || tape.size < 20) {
            return BAD;
        }
        tape.cut(tape.size - 20 + n);
        return tape.size;
    }

    public int bits(int v, int n) {
        if (n < 1 || n > 32) {
            return BAD;
        }
        if (tape.bitSize + n > 8 * TAPE_MOST) {
            return FULL;
        }
        tape.addBits(v, n);
        return tape.bitSize;
    }

    public int spoil(int i, int mask) {
        if (i < 0 || i >= tape.size || mask < 1 || mask > 255) {
            return BAD;
        }
        tape.row[i] ^= (byte) mask;
        tape.cut(tape.size);
        return tape.at(i);
    }

    public int wipe() {
        int had = tape.size;
        tape.cut(0);
        return had;
    }

    public int word() {
        int size = tape.size;
        if (size < LEAST_WORD || size > LONGEST_WORD) {
            return BAD;
        }
        if (words.manyOf(size) >= WORDS_MOST) {
            return FULL;
        }
        words.add(tape);
        tape.cut(0);
        return words.manyOf(size);
    }

    public int clear() {
        int had = words.all();
        words.forget();
        return had;
    }

    public int digest() {
        return words.digestOfAll();
    }

    public int changed(int length, int number, int change, int i) {
        if (number < 0 || number >= words.manyOf(length) || change < 0 || change >= CHANGES) {
            return BAD;
        }
        int size = Words.changedSize(length, change);
        if (i == -1) {
            return size;
        }
        return i < 0 || i >= size ? BAD : words.changedByte(length, number, change, i);
    }

    public int pack(int level) {
        if (level < 0 || level > 2 || tape.size > PACK_MOST) {
            return BAD;
        }
        packer.packAll(level);
        tape.cut(0);
        return made.size;
    }

    public int open() {
        int answer = opener.openAll();
        tape.cut(0);
        return answer;
    }

    public int pass() {
        if (made.size > TAPE_MOST) {
            return FULL;
        }
        tape.cut(0);
        for (int i = 0; i < made.size; i++) {
            tape.add(made.at(i));
        }
        return tape.size;
    }

    public int out(int i) {
        return i < 0 || i >= made.size ? BAD : made.at(i);
    }

    public int read() {
        return opener.reader.at;
    }

    public int part(int i, int what) {
        if (i < 0 || i >= Math.min(opener.partCount, PARTS_TOLD) || what < 0 || what >= PART_WHATS) {
            return BAD;
        }
        return opener.parts[i * PART_WHATS + what];
    }

    public int ring(int i) {
        return i < 0 || i > 3 ? BAD : opener.lastFour[i];
    }

    public int map(int sort, int i) {
        if (!opener.anyTold || sort < 0 || sort > 1 || i < 0 || i >= opener.told.mapSize(sort)) {
            return BAD;
        }
        return opener.told.mapOf(sort)[i];
    }

    public int length(int sort, int tree, int sign) {
        if (!opener.anyTold || sort < 0 || sort > 2 || tree < 0 || tree >= opener.told.codesOf(sort)) {
            return BAD;
        }
        if (sign < 0 || sign >= opener.told.signsOf(sort)) {
            return BAD;
        }
        return opener.told.code(sort, tree).lengthOf(sign);
    }

    public int command(int i, int what) {
        if (i < 0 || i >= packer.many) {
            return BAD;
        }
        switch (what) {
            case 0: return packer.inserts[i];
            case 1: return packer.copies[i];
            case 2: return packer.backs[i];
            case 3: return packer.signs[i];
            default: return BAD;
        }
    }

    public int count(int what) {
        switch (what) {
            case 0: return words.all();
            case 1: return tape.size;
            case 2: return made.size;
            case 3: return opener.partCount;
            case 4: return packer.many;
            default: return BAD;
        }
    }

    /** How many bits the number n has. */
    private static int bitsIn(int n) {
        int many = 0;
        for (int k = 0; k < 31; k++) {
            if (n >> k > 0) {
                many = k + 1;
            }
        }
        return many;
    }

    /** A row of bytes that grows at its end, by bytes or by bits. */
    private static final class Bytes {
        final byte[] row;
        int size;
        // Bits that were told; below 8 * size only while a last byte is not yet full of them.
        int bitSize;

        Bytes(int most) {
            row = new byte[Math.max(most, 0)];
        }

        int at(int i) {
            return i < 0 || i >= size ? 0 : row[i] & 255;
        }

        void cut(int n) {
            size = Math.min(Math.max(n, 0), size);
            bitSize = 8 * size;
        }

        void add(int b) {
            if (size < row.length) {
                row[size++] = (byte) b;
            }
            bitSize = 8 * size;
        }

        void addNumber(int v) {
            add(v >>> 24);
            add(v >>> 16);
            add(v >>> 8);
            add(v);
        }

        void addBits(int v, int n) {
            for (int k = 0; k < n && bitSize < 8 * row.length; k++) {
                int place = bitSize >> 3;
                if ((bitSize & 7) == 0) {
                    row[place] = 0;
                    size = place + 1;
                }
                row[place] |= (byte) ((v >>> k & 1) << (bitSize & 7));
                bitSize++;
            }
        }

        void fillByte() {
            bitSize = 8 * size;
        }
    }

    /** THE WORDS, by LENGTH and number, and what the CHANGES make of them. */
    private static final class Words {
        private final byte[] row = new byte[WORD_ROOM * LONGEST_WORD];
        private final int[] many = new int[LONGEST_WORD + 1];

        int manyOf(int length) {
            return length < LEAST_WORD || length > LONGEST_WORD ? 0 : many[length];
        }

        int all() {
            int sum = 0;
            for (int length = LEAST_WORD; length <= LONGEST_WORD; length++) {
                sum += many[length];
            }
            return sum;
        }

        void forget() {
            Arrays.fill(many, 0);
        }

        void add(Bytes word) {
            int length = word.size;
            int number = manyOf(length);
            if (length < LEAST_WORD || length > LONGEST_WORD || number >= WORDS_MOST) {
                return;
            }
            int place = ((length - LEAST_WORD) * WORDS_MOST + number) * LONGEST_WORD;
            for (int i = 0; i < length; i++) {
                row[place + i] = (byte) word.at(i);
            }
            many[length]++;
        }

        /** BITS of a LENGTH. */
        int bitsFor(int length) {
            int b = 0;
            for (int k = 0; k < 5; k++) {
                if (1 << b < manyOf(length)) {
                    b++;
                }
            }
            return b;
        }

        int digestOfAll() {
            int h = 5381;
            for (int length = LEAST_WORD; length <= LONGEST_WORD; length++) {
                h = (33 * h ^ many[length]) & 65535;
                for (int number = 0; number < many[length]; number++) {
                    for (int i = 0; i < length; i++) {
                        h = (33 * h ^ coreByte(length, number, 0, i)) & 65535;
                    }
                }
            }
            return h;
        }

        /** How many bytes are left of a word by HOW, without what comes AROUND it. */
        static int coreSize(int length, int how) {
            if (how < 3) {
                return length;
            }
            return how == 5 ? length - 2 : length - 1;
        }

        int coreByte(int length, int number, int how, int i) {
            int place = ((length - LEAST_WORD) * WORDS_MOST + number) * LONGEST_WORD + i;
            if (how == 3) {
                place++;
            }
            int b = place < 0 || place >= row.length ? 0 : row[place] & 255;
            boolean raised = how == 2 || how == 1 && i == 0;
            return raised && b >= 'a' && b <= 'z' ? b - 32 : b;
        }

        static int aroundSize(int around) {
            return around == 3 ? 2 : Math.min(around, 1);
        }

        static int changedSize(int length, int change) {
            return coreSize(length, change % 6) + aroundSize(change / 6);
        }

        int changedByte(int length, int number, int change, int i) {
            int how = change % 6;
            int around = change / 6;
            int size = coreSize(length, how);
            int place = around == 2 ? i - 1 : i;
            if (place >= 0 && place < size) {
                return coreByte(length, number, how, place);
            }
            return around == 3 && place == size ? COMMA : BLANK;
        }
    }

    /**
     * Reads the TAPE's bits. Once a RULE is broken all that is read is 0, so that a reader of
     * many numbers needs to ask only where it would act on them.
     */
    private static final class BitReader {
        private final Bytes tape;
        int at;
        int limit;
        int rule;

        BitReader(Bytes tape) {
            this.tape = tape;
        }

        void start() {
            at = 0;
            limit = 8 * tape.size;
            rule = 0;
        }

        boolean fine() {
            return rule == 0;
        }

        void broken(int which) {
            if (rule == 0) {
                rule = which;
            }
        }

        int number(int n) {
            if (rule != 0) {
                return 0;
            }
            if (n > limit - at) {
                at = limit;
                rule = 1;
                return 0;
            }
            int v = 0;
            for (int k = 0; k < n; k++, at++) {
                v |= (tape.row[at >> 3] >> (at & 7) & 1) << k;
            }
            return v;
        }

        /** Reads a sign by a CODE, whose LENGTHS leave no row of bits without one. */
        int signOf(Code code) {
            if (rule != 0 || code.used < 2) {
                return rule != 0 ? 0 : code.signs[0];
            }
            int value = 0;
            int before = 0;
            for (int n = 1; n <= LONGEST_CODE && at < limit; n++, at++) {
                value = 2 * value + (tape.row[at >> 3] >> (at & 7) & 1);
                if (value < code.many[n] && before + value < code.used) {
                    at++;
                    return code.signs[before + value];
                }
                before += code.many[n];
                value -= code.many[n];
            }
            rule = 1;
            return 0;
        }

        void toWholeByte() {
            if (number(-at & 7) != 0) {
                broken(6);
            }
        }

        void passOver(int bytes) {
            if (rule != 0) {
                return;
            }
            if (bytes > limit - at >> 3) {
                at = limit;
                rule = 1;
            } else {
                at += 8 * bytes;
            }
        }

        void copyTo(Bytes to, int bytes) {
            int from = at >> 3;
            passOver(bytes);
            if (rule != 0) {
                return;
            }
            for (int i = 0; i < bytes; i++) {
                to.add(tape.at(from + i));
            }
        }
    }

    /** A CODE that is read by: its signs as they come by LENGTH, and how many each LENGTH has. */
    private static final class Code {
        final int[] signs;
        final int[] many = new int[LONGEST_CODE + 1];
        int used;

        Code(int mostSigns) {
            signs = new int[Math.max(mostSigns, 1)];
        }

        void setLone(int sign) {
            Arrays.fill(many, 0);
            signs[0] = sign;
            used = 1;
        }

        /** Takes the LENGTHS (0 .. 15) of a signs. */
        void build(int[] lengths, int a) {
            int bound = Math.min(a, Math.min(signs.length, lengths.length));
            Arrays.fill(many, 0);
            for (int s = 0; s < bound; s++) {
                many[lengths[s] & 15]++;
            }
            many[0] = 0;
            used = 0;
            for (int n = 1; n <= LONGEST_CODE; n++) {
                int behind = used + many[n];
                for (int s = 0; s < bound && used < behind; s++) {
                    if (lengths[s] == n) {
                        signs[used++] = s;
                    }
                }
            }
        }

        int lengthOf(int sign) {
            int at = 0;
            for (int n = 1; n <= LONGEST_CODE; n++) {
                for (int k = 0; k < many[n]; k++, at++) {
                    if (signs[at] == sign) {
                        return n;
                    }
                }
            }
            return 0;
        }
    }

    /** Reads how a CODE is told, shortly or at length. */
    private static final class CodeReader {
        private final BitReader reader;
        private final int[] lengths = new int[COMMANDS];
        private final int[] markLengths = new int[MARKS];
        private final int[] toldSigns = new int[4];
        private final Code marks = new Code(MARKS);
        private int filled;
        private int sum;
        private int latest;

        CodeReader(BitReader reader) {
            this.reader = reader;
        }

        /** Reads a CODE of a signs. */
        void tell(Code code, int a) {
            int h = reader.number(2);
            Arrays.fill(lengths, 0);
            if (h == 1) {
                readShort(code, a);
                return;
            }
            readMarks(h);
            readLengths(a);
            if (reader.fine()) {
                code.build(lengths, a);
            }
        }

        private void readShort(Code code, int a) {
            int many = reader.number(2) + 1;
            int width = bitsIn(a - 1);
            for (int k = 0; k < many; k++) {
                toldSigns[k] = reader.number(width);
                if (!reader.fine() || !isNew(k, a)) {
                    reader.broken(12);
                    return;
                }
            }
            boolean steep = many == 4 && reader.number(1) == 1;
            if (!reader.fine()) {
                return;
            }
            if (many == 1) {
                code.setLone(toldSigns[0]);
                return;
            }
            for (int k = 0; k < many; k++) {
                lengths[toldSigns[k]] = shortLength(many, k, steep);
            }
            code.build(lengths, a);
        }

        private boolean isNew(int k, int a) {
            boolean seen = toldSigns[k] >= a || toldSigns[k] >= lengths.length;
            for (int j = 0; j < k; j++) {
                seen = seen || toldSigns[j] == toldSigns[k];
            }
            return !seen;
        }

        private static int shortLength(int many, int k, boolean steep) {
            if (many == 2) {
                return 1;
            }
            if (many == 3 || steep) {
                return Math.min(k + 1, many - 1);
            }
            return 2;
        }

        private void readMarks(int h) {
            int markSum = 0;
            int told = 0;
            Arrays.fill(markLengths, 0);
            for (int k = h; k < MARKS && markSum < WHOLE_MARKS && reader.fine(); k++) {
                int n = markLength();
                markLengths[MARK_ORDER[k]] = n;
                if (n > 0) {
                    told++;
                    markSum += WHOLE_MARKS >> n;
                }
                if (markSum > WHOLE_MARKS) {
                    reader.broken(13);
                }
            }
            if (told == 0 || told > 1 && markSum != WHOLE_MARKS) {
                reader.broken(13);
            }
            buildMarks(told);
        }

        private int markLength() {
            if (reader.number(1) == 0) {
                return reader.number(1) == 0 ? 0 : 3;
            }
            if (reader.number(1) == 0) {
                return 4;
            }
            if (reader.number(1) == 0) {
                return 2;
            }
            return reader.number(1) == 0 ? 1 : 5;
        }

        private void buildMarks(int told) {
            if (told != 1) {
                marks.build(markLengths, MARKS);
                return;
            }
            for (int m = 0; m < MARKS; m++) {
                if (markLengths[m] > 0) {
                    marks.setLone(m);
                }
            }
        }

        private void readLengths(int a) {
            filled = 0;
            sum = 0;
            latest = 8;
            int before = 0;
            int run = 0;
            for (int k = 0; k < a && filled < a && sum < WHOLE && reader.fine(); k++) {
                int mark = reader.signOf(marks);
                if (mark < 16) {
                    latest = mark > 0 ? mark : latest;
                    come(mark, 1, a);
                } else {
                    int more = reader.number(mark == 16 ? 2 : 3) + 3;
                    int had = mark == before ? run : 0;
                    run = had == 0 ? more : (mark == 16 ? 4 : 8) * (had - 2) + more;
                    come(mark == 16 ? latest : 0, run - had, a);
                }
                before = mark;
            }
            if (sum != WHOLE) {
                reader.broken(14);
            }
        }

        /** The next many signs have the LENGTH n. */
        private void come(int n, int many, int a) {
            if (many > a - filled || a > lengths.length) {
                reader.broken(14);
            }
            if (!reader.fine()) {
                return;
            }
            for (int k = 0; k < many; k++) {
                lengths[filled++] = n;
            }
            if (n > 0) {
                sum += many * (WHOLE >> n);
            }
            if (sum > WHOLE) {
                reader.broken(14);
            }
        }
    }

    /** What a CODED PART tells ahead of its COMMANDS and what map() and length() ask for. */
    private static final class Layout {
        final int[] kinds = new int[3];
        final int[] trees = new int[2];
        final int[] modes = new int[KINDS_MOST];
        final int[] literalMap = new int[64 * KINDS_MOST];
        final int[] distanceMap = new int[4 * KINDS_MOST];
        final Code[] literals = new Code[KINDS_MOST];
        final Code[] commands = new Code[KINDS_MOST];
        final Code[] distances = new Code[KINDS_MOST];
        int postfix;
        int direct;

        Layout() {
            for (int k = 0; k < KINDS_MOST; k++) {
                literals[k] = new Code(LITERALS);
                commands[k] = new Code(COMMANDS);
                distances[k] = new Code(DISTANCES_MOST);
            }
        }

        int[] mapOf(int sort) {
            return sort == 0 ? literalMap : distanceMap;
        }

        int mapSize(int sort) {
            return sort == 0 ? 64 * kinds[0] : 4 * kinds[2];
        }

        int codesOf(int sort) {
            return sort == 1 ? kinds[1] : trees[sort / 2];
        }

        int signsOf(int sort) {
            if (sort == 0) {
                return LITERALS;
            }
            return sort == 1 ? COMMANDS : NEAR + direct + (FAR << postfix);
        }

        Code code(int sort, int tree) {
            int t = Math.min(Math.max(tree, 0), KINDS_MOST - 1);
            if (sort == 0) {
                return literals[t];
            }
            return sort == 1 ? commands[t] : distances[t];
        }
    }

    /** The KIND at hand of one SORT, and when it changes. */
    private static final class Blocks {
        final Code kindCode = new Code(KINDS_MOST + 2);
        final Code countCode = new Code(COUNTS);
        int kinds;
        int kind;
        private int before;
        private int left;

        void start(int howMany) {
            kinds = howMany;
            kind = 0;
            before = 1;
            left = 0;
        }

        void readCount(BitReader reader) {
            int sign = reader.signOf(countCode);
            if (sign < COUNTS) {
                left = COUNT_BASE[sign] + reader.number(COUNT_BITS[sign]);
            }
        }

        /** To be called ahead of each thing that is read by the CODES of this SORT. */
        void takeOne(BitReader reader) {
            if (kinds < 2) {
                return;
            }
            if (left == 0) {
                changeTo(reader.signOf(kindCode));
                readCount(reader);
            }
            left--;
        }

        private void changeTo(int sign) {
            int next = sign - 2;
            if (sign == 0) {
                next = before;
            } else if (sign == 1) {
                next = kind + 1 < kinds ? kind + 1 : 0;
            }
            before = kind;
            kind = Math.min(next, KINDS_MOST - 1);
        }
    }

    /** Opens the TAPE to OUT and keeps what it saw. */
    private static final class Opener {
        final BitReader reader;
        final int[] lastFour = {4, 11, 15, 16};
        final int[] parts = new int[PARTS_TOLD * PART_WHATS];
        int partCount;
        Layout told = new Layout();
        boolean anyTold;
        private Layout coming = new Layout();
        private final Bytes made;
        private final Words words;
        private final CodeReader codes;
        private final Code mapCode = new Code(KINDS_MOST + 16);
        private final int[] front = new int[KINDS_MOST];
        private final Blocks[] blocks = new Blocks[3];
        private int range;
        private int goal;
        private boolean last;

        Opener(Bytes tape, Bytes made, Words words) {
            this.made = made;
            this.words = words;
            reader = new BitReader(tape);
            codes = new CodeReader(reader);
            for (int sort = 0; sort < 3; sort++) {
                blocks[sort] = new Blocks();
            }
        }

        int openAll() {
            begin();
            readSpan();
            // A PART has a bit at least, so there are never more of them than bits.
            for (int i = 0; i < 8 * TAPE_MOST && !last && reader.fine(); i++) {
                if (readPart() == CODED) {
                    readKinds(0);
                    readKinds(1);
                    readKinds(2);
                    readForm();
                    readTrees(0);
                    readTrees(1);
                    readCodes();
                    for (int k = 0; k < OPEN_MOST && made.size < goal && reader.fine(); k++) {
                        makeCommand();
                    }
                }
            }
            return finish();
        }

        private void begin() {
            reader.start();
            made.cut(0);
            startRing(lastFour);
            partCount = 0;
            anyTold = false;
            last = false;
        }

        private int finish() {
            reader.toWholeByte();
            if (reader.at < reader.limit) {
                reader.broken(16);
            }
            if (!reader.fine()) {
                made.cut(0);
                return -10 - reader.rule;
            }
            return made.size;
        }

        private void readSpan() {
            if (reader.number(16) != words.digestOfAll()) {
                reader.broken(2);
            }
            int span = 16;
            if (reader.number(1) == 1) {
                int w = reader.number(3);
                span = w > 0 ? 17 + w : shortSpan(reader.number(3));
            }
            range = (1 << span) - 16;
        }

        private int shortSpan(int w) {
            if (w == 1) {
                reader.broken(3);
            }
            return w == 0 ? 17 : 8 + w;
        }

        /** Reads a PART up to where its sort is sure, or all of it if it is not CODED. */
        private int readPart() {
            boolean isLast = reader.number(1) == 1;
            if (isLast && reader.number(1) == 1) {
                addPart(EMPTY, 0);
                last = true;
                return EMPTY;
            }
            int k = reader.number(2);
            if (k == 3) {
                passOver(isLast);
                return PASSED;
            }
            int size = readSize(k);
            boolean raw = !isLast && reader.number(1) == 1;
            if (!reader.fine()) {
                return EMPTY;
            }
            last = isLast;
            addPart(raw ? RAW : CODED, size);
            if (raw) {
                reader.toWholeByte();
                reader.copyTo(made, size);
                return RAW;
            }
            goal = made.size + size;
            return CODED;
        }

        private int readSize(int k) {
            int less = reader.number(16 + 4 * k);
            if (k > 0 && less >> 12 + 4 * k == 0) {
                reader.broken(5);
            }
            if (less >= OPEN_MOST - made.size) {
                reader.broken(17);
            }
            return less + 1;
        }

        private void passOver(boolean isLast) {
            if (isLast) {
                reader.broken(4);
                return;
            }
            addPart(PASSED, 0);
            if (reader.number(1) == 1) {
                reader.broken(4);
            }
            int s = reader.number(2);
            int less = reader.number(8 * s);
            if (s > 1 && less >> 8 * (s - 1) == 0) {
                reader.broken(5);
            }
            if (s > 0 && reader.fine()) {
                note(1, less + 1);
            }
            reader.toWholeByte();
            if (s > 0) {
                reader.passOver(less + 1);
            }
        }

        private void addPart(int sort, int size) {
            if (!reader.fine()) {
                return;
            }
            partCount++;
            for (int what = 0; what < PART_WHATS; what++) {
                note(what, 0);
            }
            note(0, sort);
            note(1, size);
        }

        /** Keeps a number of the PART at hand, if it is one of those that part() tells. */
        private void note(int what, int value) {
            if (partCount > 0 && partCount <= PARTS_TOLD) {
                parts[(partCount - 1) * PART_WHATS + what] = value;
            }
        }

        private void noteOneMore(int what) {
            if (partCount > 0 && partCount <= PARTS_TOLD) {
                parts[(partCount - 1) * PART_WHATS + what]++;
            }
        }

        private int readHowMany() {
            if (reader.number(1) == 0) {
                return 1;
            }
            int n = reader.number(3);
            int many = 1 + (1 << n) + reader.number(n);
            if (many > KINDS_MOST) {
                reader.broken(7);
            }
            return many;
        }

        private void readKinds(int sort) {
            int many = readHowMany();
            if (!reader.fine()) {
                return;
            }
            note(2 + sort, many);
            coming.kinds[sort] = many;
            Blocks block = blocks[sort];
            block.start(many);
            if (many > 1) {
                codes.tell(block.kindCode, many + 2);
                codes.tell(block.countCode, COUNTS);
                block.readCount(reader);
            }
        }

        private void readForm() {
            coming.postfix = reader.number(2);
            note(7, coming.postfix);
            coming.direct = reader.number(4) << coming.postfix;
            note(8, coming.direct);
            for (int kind = 0; kind < KINDS_MOST && kind < coming.kinds[0]; kind++) {
                coming.modes[kind] = reader.number(2);
            }
        }

        private void readTrees(int sort) {
            int trees = readHowMany();
            if (!reader.fine()) {
                return;
            }
            note(5 + sort, trees);
            coming.trees[sort] = trees;
            int[] map = coming.mapOf(sort);
            int n = Math.min(coming.mapSize(sort), map.length);
            Arrays.fill(map, 0);
            if (trees > 1) {
                int runs = reader.number(1) == 0 ? 0 : reader.number(4) + 1;
                codes.tell(mapCode, trees + runs);
                fillMap(map, n, runs);
                if (reader.number(1) == 1) {
                    undoFront(map, n);
                }
            }
        }

        private void fillMap(int[] map, int n, int runs) {
            int at = 0;
            for (int k = 0; k < n && at < n && reader.fine(); k++) {
                int sign = reader.signOf(mapCode);
                if (sign == 0 || sign > runs) {
                    map[at++] = Math.max(sign - runs, 0);
                    continue;
                }
                // The row is 0 already, so a run of 0s has only to be counted.
                at += (1 << sign) + reader.number(sign);
                if (at > n) {
                    reader.broken(15);
                }
            }
        }

        private void undoFront(int[] map, int n) {
            for (int t = 0; t < KINDS_MOST; t++) {
                front[t] = t;
            }
            for (int i = 0; i < n; i++) {
                int place = Math.min(map[i], KINDS_MOST - 1);
                int value = front[place];
                for (int k = place; k > 0; k--) {
                    front[k] = front[k - 1];
                }
                front[0] = value;
                map[i] = value;
            }
        }

        private void readCodes() {
            for (int sort = 0; sort < 3; sort++) {
                int many = Math.min(coming.codesOf(sort), KINDS_MOST);
                for (int tree = 0; tree < many && reader.fine(); tree++) {
                    codes.tell(coming.code(sort, tree), coming.signsOf(sort));
                }
            }
            if (reader.fine()) {
                Layout before = told;
                told = coming;
                coming = before;
                anyTold = true;
            }
        }

        private void makeCommand() {
            blocks[1].takeOne(reader);
            int c = reader.signOf(told.code(1, blocks[1].kind));
            int cell = Math.min(c / 64, 10);
            int insertCode = 8 * CELL_INSERT[cell] + c / 8 % 8;
            int copyCode = 8 * CELL_COPY[cell] + c % 8;
            int insert = INSERT_BASE[insertCode] + reader.number(INSERT_BITS[insertCode]);
            int copy = COPY_BASE[copyCode] + reader.number(COPY_BITS[copyCode]);
            if (!reader.fine()) {
                return;
            }
            noteOneMore(9);
            if (insert > goal - made.size) {
                reader.broken(8);
                return;
            }
            for (int k = 0; k < insert && reader.fine(); k++) {
                makeLiteral();
            }
            if (made.size >= goal || !reader.fine()) {
                return;
            }
            int sign = cell < 2 ? 0 : readDistanceSign(copy);
            int distance = readDistance(sign);
            int most = Math.min(range, made.size);
            if (distance <= 0) {
                reader.broken(9);
            } else if (distance <= most) {
                makeCopy(copy, distance, sign);
            } else {
                makeWord(copy, distance - most - 1);
            }
        }

        private void makeLiteral() {
            Blocks block = blocks[0];
            block.takeOne(reader);
            int context = context(told.modes[block.kind], made.at(made.size - 1), made.at(made.size - 2));
            int tree = told.literalMap[64 * block.kind + context];
            int literal = reader.signOf(told.code(0, tree));
            if (reader.fine()) {
                made.add(literal);
            }
        }

        private int readDistanceSign(int copy) {
            Blocks block = blocks[2];
            block.takeOne(reader);
            int tree = told.distanceMap[4 * block.kind + Math.min(copy - 2, 3)];
            return reader.signOf(told.code(2, tree));
        }

        private int readDistance(int sign) {
            if (sign < 4) {
                return lastFour[sign];
            }
            if (sign < NEAR) {
                int k = (sign - 4) % 6;
                int by = 1 + k / 2;
                return lastFour[sign < 10 ? 0 : 1] + (k % 2 == 0 ? -by : by);
            }
            if (sign < NEAR + told.direct) {
                return sign - 15;
            }
            int x = sign - told.direct - NEAR;
            int postfix = told.postfix;
            int n = 1 + (x >> postfix + 1);
            int high = (2 + (x >> postfix & 1) << n) - 4 + reader.number(n);
            return (high << postfix) + (x & (1 << postfix) - 1) + told.direct + 1;
        }

        private void makeCopy(int copy, int distance, int sign) {
            if (copy > goal - made.size) {
                reader.broken(8);
            }
            if (!reader.fine()) {
                return;
            }
            for (int k = 0; k < copy; k++) {
                made.add(made.at(made.size - distance));
            }
            if (sign != 0) {
                comeToRing(lastFour, distance);
            }
            noteOneMore(10);
        }

        private void makeWord(int length, int y) {
            int b = words.bitsFor(length);
            int number = y & (1 << b) - 1;
            int change = y >> b;
            if (number >= words.manyOf(length)) {
                reader.broken(10);
            } else if (change >= CHANGES) {
                reader.broken(11);
            } else if (Words.changedSize(length, change) > goal - made.size) {
                reader.broken(8);
            }
            if (!reader.fine()) {
                return;
            }
            int size = Words.changedSize(length, change);
            for (int i = 0; i < size; i++) {
                made.add(words.changedByte(length, number, change, i));
            }
            noteOneMore(11);
        }
    }

    private static void startRing(int[] ring) {
        ring[0] = 4;
        ring[1] = 11;
        ring[2] = 15;
        ring[3] = 16;
    }

    private static void comeToRing(int[] ring, int distance) {
        ring[3] = ring[2];
        ring[2] = ring[1];
        ring[1] = ring[0];
        ring[0] = distance;
    }

    /** The CONTEXT of a literal behind the bytes q, p. */
    private static int context(int mode, int p, int q) {
        switch (mode) {
            case 0: return p & 63;
            case 1: return p >> 2;
            case 2: return firstOf(p) | secondOf(q);
            default: return 8 * sizeOf(p) + sizeOf(q);
        }
    }

    private static int firstOf(int p) {
        if (p >= 128) {
            return p < 192 ? p & 1 : 2 + (p & 1);
        }
        if (p < 32 || p == 127) {
            return p == 9 || p == 10 || p == 13 ? 4 : 0;
        }
        if (p >= 'a' && p <= 'z') {
            return isVowel(p - 32) ? 56 : 60;
        }
        if (p >= 'A' && p <= 'Z') {
            return isVowel(p) ? 48 : 52;
        }
        return p >= '0' && p <= '9' ? 44 : firstOfSign(p);
    }

    private static boolean isVowel(int b) {
        return b == 'A' || b == 'E' || b == 'I' || b == 'O' || b == 'U';
    }

    private static int firstOfSign(int p) {
        switch (p) {
            case ' ': return 8;
            case '"': case '\'': return 16;
            case '%': return 20;
            case '(': case '<': case '[': case '{': return 24;
            case ')': case '>': case ']': case '}': return 28;
            case ',': case ':': case ';': return 32;
            case '.': return 36;
            case '=': return 40;
            default: return 12;
        }
    }

    private static int secondOf(int q) {
        if (q < 32 || q >= 127 && q < 192) {
            return 0;
        }
        if (q >= 192 || q >= '0' && q <= '9' || q >= 'A' && q <= 'Z') {
            return 2;
        }
        return q >= 'a' && q <= 'z' ? 3 : 1;
    }

    private static int sizeOf(int b) {
        if (b < 64) {
            return b == 0 ? 0 : b < 16 ? 1 : 2;
        }
        if (b < 192) {
            return b < 128 ? 3 : 4;
        }
        return b < 240 ? 5 : b < 255 ? 6 : 7;
    }

    /** Finds the COPY and the WORD of a place of the TAPE. */
    private static final class Finder {
        private static final int HASHES = 1024, PAIRS = 256, COPY_LEAST = 4, COPY_MOST = 200;

        final int[] copyMade = new int[PACK_MOST];
        final int[] copyBack = new int[PACK_MOST];
        final int[] wordMade = new int[PACK_MOST];
        // LENGTH, number and CHANGE in one, so that of two words the lesser one is the earlier.
        final int[] wordKey = new int[PACK_MOST];
        private final Bytes tape;
        private final Words words;
        private final int[] placeHead = new int[HASHES];
        private final int[] placeBefore = new int[PACK_MOST];
        private final int[] coreHead = new int[PAIRS];
        private final int[] coreBefore = new int[WORD_ROOM * 6];
        private int known;
        private int size;

        Finder(Bytes tape, Words words) {
            this.tape = tape;
            this.words = words;
        }

        void start() {
            size = Math.min(tape.size, PACK_MOST);
            known = 0;
            Arrays.fill(placeHead, -1);
            Arrays.fill(coreHead, -1);
            for (int length = LEAST_WORD; length <= LONGEST_WORD; length++) {
                for (int number = 0; number < words.manyOf(length); number++) {
                    for (int how = 0; how < 6; how++) {
                        int core = ((length - LEAST_WORD) * WORDS_MOST + number) * 6 + how;
                        int h = pairHash(words.coreByte(length, number, how, 0), words.coreByte(length, number, how, 1));
                        coreBefore[core] = coreHead[h];
                        coreHead[h] = core;
                    }
                }
            }
        }

        /** Places are to be asked for in rising order. */
        void look(int p) {
            if (p < 0 || p >= size) {
                return;
            }
            for (; known < p; known++) {
                int h = hash(known);
                placeBefore[known] = placeHead[h];
                placeHead[h] = known;
            }
            findCopy(p);
            wordMade[p] = 0;
            wordKey[p] = 0;
            findWord(p, p, false);
            if (tape.at(p) == BLANK) {
                findWord(p, p + 1, true);
            }
        }

        /** Every core has two bytes at least, so the first two tell where to look for it. */
        private static int pairHash(int first, int second) {
            return 33 * first + second & PAIRS - 1;
        }

        private int hash(int p) {
            int h = tape.at(p) + 33 * tape.at(p + 1) + 1025 * tape.at(p + 2) + 4099 * tape.at(p + 3);
            return (h ^ h >> 10) & HASHES - 1;
        }

        private void findCopy(int p) {
            int limit = Math.min(COPY_MOST, size - p);
            int best = COPY_LEAST - 1;
            int back = 0;
            int from = limit < COPY_LEAST ? -1 : placeHead[hash(p)];
            // The chain goes from near to far: only a longer one is better.
            for (int k = 0; k < PACK_MOST && from >= 0 && best < limit; k++) {
                if (tape.row[from + best] == tape.row[p + best]) {
                    int same = sameBytes(from, p, limit);
                    if (same > best) {
                        best = same;
                        back = p - from;
                    }
                }
                from = placeBefore[from];
            }
            copyMade[p] = back > 0 ? best : 0;
            copyBack[p] = back;
        }

        private int sameBytes(int from, int p, int limit) {
            int same = 0;
            for (int k = 0; k < limit && tape.row[from + k] == tape.row[p + k]; k++) {
                same++;
            }
            return same;
        }

        /** Looks for words whose core begins at start; ahead: behind a blank at p. */
        private void findWord(int p, int start, boolean ahead) {
            if (start + 1 >= size) {
                return;
            }
            int core = coreHead[pairHash(tape.at(start), tape.at(start + 1))];
            for (int k = 0; k < coreBefore.length && core >= 0; k++) {
                int how = core % 6;
                int length = LEAST_WORD + core / 6 / WORDS_MOST;
                int behind = start + Words.coreSize(length, how);
                if (behind <= size && isCore(core, start, behind)) {
                    if (ahead) {
                        offer(p, behind, core, 2);
                    } else {
                        offerBehind(p, behind, core);
                    }
                }
                core = coreBefore[core];
            }
        }

        private boolean isCore(int core, int start, int behind) {
            int length = LEAST_WORD + core / 6 / WORDS_MOST;
            int number = core / 6 % WORDS_MOST;
            for (int i = start; i < behind; i++) {
                if (words.coreByte(length, number, core % 6, i - start) != tape.at(i)) {
                    return false;
                }
            }
            return true;
        }

        private void offerBehind(int p, int behind, int core) {
            offer(p, behind, core, 0);
            if (behind < size && tape.at(behind) == BLANK) {
                offer(p, behind + 1, core, 1);
            }
            if (behind + 1 < size && tape.at(behind) == COMMA && tape.at(behind + 1) == BLANK) {
                offer(p, behind + 2, core, 3);
            }
        }

        private void offer(int p, int behind, int core, int around) {
            int makes = behind - p;
            int key = core / 6 * CHANGES + 6 * around + core % 6;
            if (makes < 4 || makes < wordMade[p]) {
                return;
            }
            if (makes > wordMade[p] || key < wordKey[p]) {
                wordMade[p] = makes;
                wordKey[p] = key;
            }
        }
    }

    /** Packs the TAPE to OUT and keeps the commands. */
    private static final class Packer {
        private static final int LITERAL = 0, COPY = 1, WORD = 2;
        private static final int LITERAL_COST = 9, STEP_COST = 24;
        // A COPY or WORD makes four bytes at least; one more command holds the literals at the end.
        private static final int COMMANDS_ROOM = PACK_MOST / 4 + 1;

        final int[] inserts = new int[COMMANDS_ROOM];
        final int[] copies = new int[COMMANDS_ROOM];
        final int[] backs = new int[COMMANDS_ROOM];
        final int[] signs = new int[COMMANDS_ROOM];
        int many;
        // The distance's sign, or - 1 where none is written.
        private final int[] backSigns = new int[COMMANDS_ROOM];
        private final int[] makes = new int[COMMANDS_ROOM];
        private final int[] choice = new int[PACK_MOST];
        private final int[] cost = new int[PACK_MOST + 1];
        private final int[] lastFour = new int[4];
        private final Bytes tape;
        private final Bytes to;
        private final Words words;
        private final Finder finder;
        private final CodeWriter literalCode = new CodeWriter(LITERALS);
        private final CodeWriter commandCode = new CodeWriter(COMMANDS);
        private final CodeWriter distanceCode = new CodeWriter(NEAR + FAR);
        private final CodeWriter markCode = new CodeWriter(MARKS);

        Packer(Bytes tape, Bytes to, Words words) {
            this.tape = tape;
            this.to = to;
            this.words = words;
            finder = new Finder(tape, words);
        }

        void packAll(int level) {
            int size = Math.min(tape.size, PACK_MOST);
            many = 0;
            to.cut(0);
            to.addBits(words.digestOfAll(), 16);
            to.addBits(0, 1);
            if (size > 0 && level > 0) {
                choose(level, size);
                listCommands(size);
                tellPart(size);
                writeCommands();
            } else {
                writeRaw(size);
                to.addBits(3, 2);
            }
            to.fillByte();
        }

        private void writeRaw(int size) {
            if (size == 0) {
                return;
            }
            to.addBits(0, 3);
            to.addBits(size - 1, 16);
            to.addBits(1, 1);
            for (int i = 0; i < size; i++) {
                to.add(tape.at(i));
            }
        }

        private void choose(int level, int size) {
            finder.start();
            if (level == 1) {
                for (int p = 0; p < size; p += Math.max(makesAt(p), 1)) {
                    finder.look(p);
                    choice[p] = longest(p);
                }
                return;
            }
            for (int p = 0; p < size; p++) {
                finder.look(p);
            }
            cost[size] = 0;
            for (int p = size - 1; p >= 0; p--) {
                takeCheapest(p);
            }
        }

        private int longest(int p) {
            int copy = finder.copyMade[p];
            int word = finder.wordMade[p];
            if (copy == 0 && word == 0) {
                return LITERAL;
            }
            return copy >= word ? COPY : WORD;
        }

        private void takeCheapest(int p) {
            int copy = finder.copyMade[p];
            int word = finder.wordMade[p];
            choice[p] = LITERAL;
            cost[p] = LITERAL_COST + cost[p + 1];
            if (word > 0 && STEP_COST + cost[p + word] <= cost[p]) {
                choice[p] = WORD;
                cost[p] = STEP_COST + cost[p + word];
            }
            if (copy > 0 && STEP_COST + cost[p + copy] <= cost[p]) {
                choice[p] = COPY;
                cost[p] = STEP_COST + cost[p + copy];
            }
        }

        private int makesAt(int p) {
            if (choice[p] == LITERAL) {
                return 1;
            }
            return choice[p] == COPY ? finder.copyMade[p] : finder.wordMade[p];
        }

        private void listCommands(int size) {
            int insert = 0;
            startRing(lastFour);
            for (int p = 0; p < size; p += Math.max(makesAt(p), 1)) {
                if (choice[p] == LITERAL) {
                    insert++;
                    continue;
                }
                if (choice[p] == COPY) {
                    addCommand(insert, finder.copyMade[p], finder.copyBack[p], p);
                } else {
                    addWord(insert, p);
                }
                insert = 0;
            }
            if (insert > 0 && many < COMMANDS_ROOM) {
                inserts[many] = insert;
                copies[many] = 0;
                backs[many] = 0;
                signs[many] = commandSign(codeOf(INSERT_BASE, insert), 0, -1);
                backSigns[many] = -1;
                makes[many] = 0;
                many++;
            }
        }

        private void addWord(int insert, int p) {
            int key = finder.wordKey[p];
            int length = LEAST_WORD + key / CHANGES / WORDS_MOST;
            int number = key / CHANGES % WORDS_MOST;
            int y = number + (key % CHANGES << words.bitsFor(length));
            addCommand(insert, length, p + 1 + y, p);
        }

        private void addCommand(int insert, int copy, int back, int p) {
            if (many >= COMMANDS_ROOM) {
                return;
            }
            int sign = distanceSign(back);
            inserts[many] = insert;
            copies[many] = copy;
            backs[many] = back;
            signs[many] = commandSign(codeOf(INSERT_BASE, insert), codeOf(COPY_BASE, copy), sign);
            // In cells 0 and 1 the distance's sign is not told.
            backSigns[many] = signs[many] < 128 ? -1 : sign;
            makes[many] = makesAt(p);
            many++;
            if (choice[p] == COPY && sign != 0) {
                comeToRing(lastFour, back);
            }
        }

        private int distanceSign(int back) {
            for (int sign = 0; sign < 4; sign++) {
                if (lastFour[sign] == back) {
                    return sign;
                }
            }
            int n = bitsIn(back + 3) - 2;
            return NEAR + 2 * (n - 1) + (back + 3 >> n & 1);
        }

        private static int codeOf(int[] bases, int value) {
            int code = 0;
            for (int k = 0; k < bases.length; k++) {
                if (bases[k] <= value) {
                    code = k;
                }
            }
            return code;
        }

        private static int commandSign(int insertCode, int copyCode, int sign) {
            int cell = copyCode / 8;
            if (sign != 0 || insertCode >= 8 || copyCode >= 16) {
                for (int k = 2; k < CELL_INSERT.length; k++) {
                    if (CELL_INSERT[k] == insertCode / 8 && CELL_COPY[k] == copyCode / 8) {
                        cell = k;
                    }
                }
            }
            return 64 * cell + 8 * (insertCode % 8) + copyCode % 8;
        }

        private void tellPart(int size) {
            literalCode.start();
            commandCode.start();
            distanceCode.start();
            int at = 0;
            for (int i = 0; i < many; i++) {
                commandCode.note(signs[i]);
                for (int k = 0; k < inserts[i]; k++) {
                    literalCode.note(tape.at(at + k));
                }
                distanceCode.note(backSigns[i]);
                at += inserts[i] + makes[i];
            }
            to.addBits(1, 4);
            to.addBits(size - 1, 16);
            // One KIND of each SORT, POSTFIX, DIRECT, MODE, one TREE of each SORT: all are 0s.
            to.addBits(0, 13);
            literalCode.tell(to, markCode);
            commandCode.tell(to, markCode);
            distanceCode.tell(to, markCode);
        }

        private void writeCommands() {
            int at = 0;
            for (int i = 0; i < many; i++) {
                commandCode.write(to, signs[i]);
                int insertCode = codeOf(INSERT_BASE, inserts[i]);
                int copyCode = codeOf(COPY_BASE, copies[i]);
                to.addBits(inserts[i] - INSERT_BASE[insertCode], INSERT_BITS[insertCode]);
                to.addBits(copies[i] - COPY_BASE[copyCode], COPY_BITS[copyCode]);
                for (int k = 0; k < inserts[i]; k++) {
                    literalCode.write(to, tape.at(at + k));
                }
                if (backSigns[i] >= 0) {
                    distanceCode.write(to, backSigns[i]);
                }
                if (backSigns[i] >= NEAR) {
                    to.addBits(backs[i] + 3, 1 + (backSigns[i] - NEAR) / 2);
                }
                at += inserts[i] + makes[i];
            }
        }
    }

    /** A CODE that is made of how often each sign is there, told and written. */
    private static final class CodeWriter {
        private final int[] weights;
        private final int[] lengths;
        private final int[] codes;
        private final int[] order;
        private final int[] marks;
        private final int[] runs;
        private final int[] nodeWeights;
        private final int[] parents;
        private final int[] depths;
        private int used;
        private int markCount;

        CodeWriter(int a) {
            int room = Math.max(a, 1);
            weights = new int[room];
            lengths = new int[room];
            codes = new int[room];
            order = new int[room];
            marks = new int[room];
            runs = new int[room];
            nodeWeights = new int[2 * room];
            parents = new int[2 * room];
            depths = new int[2 * room];
        }

        void start() {
            Arrays.fill(weights, 0);
        }

        void note(int sign) {
            if (sign >= 0 && sign < weights.length) {
                weights[sign]++;
            }
        }

        /** Writes a sign; the only sign of a CODE has no bits. */
        void write(Bytes to, int sign) {
            if (sign >= 0 && sign < codes.length) {
                to.addBits(codes[sign], lengths[sign]);
            }
        }

        void tell(Bytes to, CodeWriter markCode) {
            settle(LONGEST_CODE);
            if (used <= 4) {
                tellShort(to);
                return;
            }
            listMarks();
            markCode.start();
            for (int k = 0; k < markCount; k++) {
                markCode.note(marks[k]);
            }
            markCode.settle(LONGEST_MARK);
            to.addBits(0, 2);
            markCode.tellAsMarks(to);
            for (int k = 0; k < markCount; k++) {
                markCode.write(to, marks[k]);
                if (marks[k] == 17) {
                    to.addBits(runs[k] - 3, 3);
                }
            }
        }

        private void settle(int longest) {
            Arrays.fill(lengths, 0);
            used = 0;
            for (int s = 0; s < weights.length; s++) {
                if (weights[s] > 0) {
                    order[used++] = s;
                }
            }
            if (used < 2) {
                order[0] = used == 0 ? 0 : order[0];
                used = 1;
                return;
            }
            // Halving ends with weights of 1 and 2, which keep every LENGTH low enough.
            for (int tries = 0; tries < 40; tries++) {
                sortOrder();
                joinAll();
                if (depthOfAll() <= longest) {
                    break;
                }
                for (int k = 0; k < used; k++) {
                    weights[order[k]] = weights[order[k]] / 2 + 1;
                }
            }
            makeCodes();
        }

        private boolean comesLater(int a, int b) {
            return weights[a] > weights[b] || weights[a] == weights[b] && a > b;
        }

        private void sortOrder() {
            for (int k = 1; k < used; k++) {
                int sign = order[k];
                int at = k;
                for (; at > 0 && comesLater(order[at - 1], sign); at--) {
                    order[at] = order[at - 1];
                }
                order[at] = sign;
            }
        }

        /** Signs and joined ones both rise by weight, so the least is the first of either row. */
        private void joinAll() {
            for (int k = 0; k < used; k++) {
                nodeWeights[k] = weights[order[k]];
            }
            int sign = 0;
            int joined = used;
            for (int next = used; next < 2 * used - 1; next++) {
                nodeWeights[next] = 0;
                for (int k = 0; k < 2; k++) {
                    boolean takesSign = joined >= next
                        || sign < used && nodeWeights[sign] <= nodeWeights[joined];
                    int least = takesSign ? sign++ : joined++;
                    nodeWeights[next] += nodeWeights[least];
                    parents[least] = next;
                }
            }
        }

        private int depthOfAll() {
            int deepest = 0;
            depths[2 * used - 2] = 0;
            for (int k = 2 * used - 3; k >= 0; k--) {
                depths[k] = depths[parents[k]] + 1;
                deepest = Math.max(deepest, depths[k]);
            }
            for (int k = 0; k < used; k++) {
                lengths[order[k]] = depths[k];
            }
            return deepest;
        }

        /** The codes are kept with their highest bit lowest, as they are written. */
        private void makeCodes() {
            int code = 0;
            for (int n = 1; n <= LONGEST_CODE; n++) {
                code = 2 * code;
                for (int s = 0; s < lengths.length; s++) {
                    if (lengths[s] == n) {
                        codes[s] = turned(code, n);
                        code++;
                    }
                }
            }
        }

        private static int turned(int code, int n) {
            int result = 0;
            for (int k = 0; k < n; k++) {
                result = 2 * result + (code >> k & 1);
            }
            return result;
        }

        private void tellShort(Bytes to) {
            int width = bitsIn(weights.length - 1);
            int longest = 0;
            to.addBits(1, 2);
            to.addBits(used - 1, 2);
            if (used == 1) {
                to.addBits(order[0], width);
                return;
            }
            for (int n = 1; n <= 3; n++) {
                for (int s = 0; s < lengths.length; s++) {
                    if (lengths[s] == n) {
                        to.addBits(s, width);
                        longest = n;
                    }
                }
            }
            if (used == 4) {
                to.addBits(longest == 3 ? 1 : 0, 1);
            }
        }

        private void listMarks() {
            int behind = 0;
            for (int s = 0; s < lengths.length; s++) {
                behind = lengths[s] > 0 ? s + 1 : behind;
            }
            markCount = 0;
            int before = 0;
            int s = 0;
            for (int k = 0; k < behind && s < behind; k++) {
                int zeros = zerosFrom(s);
                boolean runs17 = zeros >= 3 && before != 17;
                before = runs17 ? 17 : lengths[s];
                marks[k] = before;
                runs[k] = runs17 ? zeros : 1;
                s += runs[k];
                markCount++;
            }
        }

        /** How many 0s are one behind the other, ten at most. */
        private int zerosFrom(int s) {
            int zeros = 0;
            for (int k = s; k < lengths.length && k < s + 10 && lengths[k] == 0; k++) {
                zeros++;
            }
            return zeros;
        }

        private void tellAsMarks(Bytes to) {
            int sum = 0;
            for (int k = 0; k < MARKS && sum < WHOLE_MARKS; k++) {
                int mark = MARK_ORDER[k];
                int n = Math.min(lengths[mark], LONGEST_MARK);
                if (used == 1 && mark == order[0]) {
                    n = 1;
                }
                to.addBits(MARK_TOLD[n], MARK_TOLD_BITS[n]);
                sum += n > 0 ? WHOLE_MARKS >> n : 0;
            }
        }
    }
}
