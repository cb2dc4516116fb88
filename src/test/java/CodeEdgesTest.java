/** Promise 12, section 3 of the document and MAPS: each boundary of what tells a CODE or a MAP, one by one. */
public final class CodeEdgesTest {
    private static final String[] TOLD = {"00", "1110", "110", "01", "10", "1111"};
    private static final int[] ORDER = {1, 2, 3, 4, 0, 5, 17, 6, 16, 7, 8, 9, 10, 11, 12, 13, 14, 15};

    public static void main(String[] args) {
        signTheSecondTime();
        signNotBelowA();
        fourthSignIsJudgedAheadOfItsBit();
        widthOfFewSigns();
        withoutTheFirstMarks();
        loneMarks();
        sumOfMarksUpTo32();
        marksEndAt32();
        marksAtTheEnd();
        sixteenAtFirst();
        sixteenBehindLengths();
        sixteensTogether();
        sixteensApart();
        seventeensTogether();
        seventeensApart();
        lengthsEndAt32768();
        sumAbove32768();
        lengthsUpToTheLastSign();
        moreLengthsThanSigns();
        lengthsOfCommandsAndDistances();
        longestLength();
        orderOfCodes();
        nothingStaysFromTheCodeBefore();
        mapWithoutRuns();
        runsOfEachSize();
        runBeyondTheMap();
        signsOfAMap();
        movedToTheFront();
        nothingStaysFromTheMapBefore();
        mapsOfTwelve();
        Check.finish();
    }

    /** A PART of one literal, up to the CODE of literals. */
    private static Bits ahead() {
        return TestRows.lastHead(TestRows.start(), 1);
    }

    /** What comes behind the CODE of literals: the other CODES; the command INSERT 1 has no bits. */
    private static Bits behind(Bits row) {
        TestRows.lone(row, TestRows.command(1, 0), 10);
        return TestRows.lone(row, 0, 6);
    }

    /** Opens a row whose CODE of literals stands, with the bits of one literal; looks at all LENGTHS. */
    private static void told(String name, Bits row, String literal, int due, int... lengths) {
        BrotliWords x = new BrotliWords();
        TestRows.opened(x, name, behind(row).plain(literal), "" + (char) due);
        for (int s = 0; s < 256; s++) {
            Check.due(name + ": LENGTH of " + s, x.length(0, 0, s), s < lengths.length ? lengths[s] : 0);
        }
    }

    private static void broken(String name, Bits row, int rule) {
        int read = row.size();
        // What comes behind is not read: 1s and 0s.
        TestRows.opened(name, row.number(0x5a5a, 16), -10 - rule, read);
    }

    /** Marks 0 .. 13 by four bits, 14 .. 17 by five: all of them can be told. */
    private static Bits allMarks(Bits row) {
        row.plain("00");
        for (int mark : ORDER) {
            row.plain(mark < 14 ? TOLD[4] : TOLD[5]);
        }
        return row;
    }

    /** Marks by allMarks(); of 16 and 17 with the number of their bits: 1603 is a 16 with 3. */
    private static Bits marks(Bits row, int... marks) {
        for (int one : marks) {
            int mark = one < 100 ? one : one / 100;
            row.plain(mark < 14 ? TestRows.mark(mark) : "111" + (mark - 14 >> 1) + (mark - 14 & 1));
            if (mark > 15) {
                row.number(one % 100, mark - 14);
            }
        }
        return row;
    }

    private static int[] times(int n, int many) {
        int[] lengths = new int[many];
        java.util.Arrays.fill(lengths, n);
        return lengths;
    }

    private static int[] rows(int[]... rows) {
        return java.util.Arrays.stream(rows).flatMapToInt(java.util.Arrays::stream).toArray();
    }

    private static void signTheSecondTime() {
        for (int many = 2; many <= 4; many++) {
            for (int second = 1; second < many; second++) {
                for (int first = 0; first < second; first++) {
                    Bits row = ahead().number(1, 2).number(many - 1, 2);
                    for (int k = 0; k <= second; k++) {
                        row.number(k == second ? 100 + first : 100 + k, 8);
                    }
                    broken("of " + many + " sign " + second + " is sign " + first, row, 12);
                }
            }
        }
    }

    private static void signNotBelowA() {
        for (int sign : new int[] {703, 704, 705, 1023}) {
            for (int place = 0; place < 4; place++) {
                Bits row = TestRows.lone(ahead(), 'a', 8).number(1, 2).number(3, 2);
                for (int k = 0; k < place; k++) {
                    row.number(k, 10);
                }
                row.number(sign, 10);
                if (sign > 703) {
                    broken("command " + sign + " at " + place, row, 12);
                } else {
                    // The row of bits ends behind it.
                    row.toWholeByte();
                    TestRows.opened("command " + sign + " at " + place, row, -11, row.size());
                }
            }
        }
    }

    private static void fourthSignIsJudgedAheadOfItsBit() {
        Bits row = ahead().number(1, 2).number(3, 2).number(1, 8).number(2, 8).number(3, 8).number(2, 8);
        broken("the fourth of four", row, 12);
    }

    /** As many bits as the number a - 1 has: for TREES + RUNS of 2, 3, 4, 5, 8, 9, 16, 17 and 28. */
    private static void widthOfFewSigns() {
        int[][] sizes = {{2, 0, 1}, {3, 0, 2}, {4, 0, 2}, {5, 0, 3}, {8, 0, 3}, {9, 0, 4}, {12, 0, 4}, {12, 4, 4}, {12, 5, 5},
            {2, 1, 2}, {2, 16, 5}, {12, 16, 5}};
        for (int[] one : sizes) {
            int a = one[0] + one[1];
            Bits row = TestRows.start().plain("1 0 00").number(0, 16).plain("0 0 0  00 0000  00");
            TestRows.howMany(row, one[0]);
            row.plain(one[1] == 0 ? "0" : "1").number(one[1] - 1, one[1] == 0 ? 0 : 4);
            String name = one[0] + " TREES, RUNS " + one[1];
            for (int sign = a - 1; sign < 1 << one[2]; sign++) {
                Bits more = TestRows.lone(row.copy(), sign, one[2]);
                if (sign >= a) {
                    broken(name + ", sign " + sign, more, 12);
                } else {
                    // All of the MAP is the last TREE, without a bit; not moved to the front; TREES of distances 1.
                    more.plain("0").plain("0");
                    for (int tree = 0; tree < one[0]; tree++) {
                        TestRows.lone(more, 'a' + tree, 8);
                    }
                    BrotliWords x = new BrotliWords();
                    TestRows.opened(x, name, behind(more), "" + (char) ('a' + one[0] - 1));
                    Check.due(name + ": map(0, 63)", x.map(0, 63), one[0] - 1);
                }
            }
        }
    }

    /** h = 2: marks 1 and 2 are not told; h = 3: mark 3 neither. */
    private static void withoutTheFirstMarks() {
        told("h 0", ahead().number(0, 2).plain("1110 1110").plain("0 0"), "1", 1, 1, 1);
        told("h 2", ahead().number(2, 2).plain("1110 1110").plain("0".repeat(8)), "110", 6, times(3, 8));
        told("h 3", ahead().number(3, 2).plain("1110 1110").plain("1".repeat(16)), "1110", 14, times(4, 16));
        // Of 18, 16 and 15 marks the last one told is 15.
        int[] many = {18, 0, 16, 15};
        for (int h : new int[] {0, 2, 3}) {
            Bits row = ahead().number(h, 2).plain("00".repeat(many[h] - 1)).plain("01");
            broken("h " + h + ": a lone mark 15", row, 14);
            row = ahead().number(h, 2).plain("00".repeat(many[h]));
            broken("h " + h + ": none", row, 13);
        }
    }

    /** A lone mark of whatever LENGTH has no bits; all 18 are told. */
    private static void loneMarks() {
        for (int at = 0; at < 18; at++) {
            int mark = ORDER[at];
            for (int n = 1; n <= 5; n++) {
                Bits row = ahead().number(0, 2).plain("00".repeat(at)).plain(TOLD[n]).plain("00".repeat(17 - at));
                String name = "a lone mark " + mark + " of LENGTH " + n;
                if (mark >= 1 && mark <= 8) {
                    // 2^mark signs: the last of them is all 1s.
                    told(name, row, "1".repeat(mark), (1 << mark) - 1, times(mark, 1 << mark));
                } else if (mark < 16) {
                    broken(name, row, 14);
                } else if (mark == 17) {
                    // 0s: 3, 11, 75 and, with 7, 8 (75 - 2) + 3 + 7: too many.
                    broken(name, row.number(0, 9).number(7, 3), 14);
                } else {
                    told(name, row.number(2, 2).number(2, 2).number(2, 2).number(1, 2), "00000111", 7, times(8, 256));
                }
            }
        }
    }

    /** Behind LENGTHS 1, 2, 3, 4, 5 (31) a 5 makes 32, another one is too much, as it is told. */
    private static void sumOfMarksUpTo32() {
        String most = TOLD[1] + TOLD[2] + TOLD[3] + TOLD[4] + TOLD[5];
        for (int n = 1; n <= 4; n++) {
            broken("31 and LENGTH " + n, ahead().number(0, 2).plain(most).plain(TOLD[n]), 13);
            broken("31, 0s and LENGTH " + n, ahead().number(0, 2).plain(most).plain("00".repeat(12)).plain(TOLD[n]), 13);
        }
        broken("31 at the end", ahead().number(0, 2).plain(most).plain("00".repeat(13)), 13);
        // Marks 1, 2, 3, 4, 0, 5 by 0, 10, 110, 1110, 11110, 11111: LENGTH 1 twice.
        Bits row = ahead().number(0, 2).plain(most).plain(TOLD[5]).plain("0 0");
        told("31 and LENGTH 5", row, "0", 0, 1, 1);
        row = ahead().number(0, 2).plain(most).plain("00".repeat(12)).plain(TOLD[5]).plain("0 0");
        told("31, 0s and LENGTH 5", row, "1", 1, 1, 1);
        int[][] tooMany = {{1, 2, 1}, {2, 2, 2, 3, 2}, {3, 3, 3, 3, 3, 3, 3, 4, 3}, {1, 3, 3, 3, 2}, {5, 1, 1}, {4, 2, 2, 2, 2}};
        for (int[] one : tooMany) {
            row = ahead().number(0, 2);
            for (int n : one) {
                row.plain(TOLD[n]);
            }
            broken("a sum above 32 by " + one.length, row, 13);
        }
    }

    /** At 32 no more marks are told. */
    private static void marksEndAt32() {
        told("marks 1 and 2", ahead().number(0, 2).plain("1110 1110").plain("1 1 1 1"), "11", 3, 2, 2, 2, 2);
        told("marks 1, 3, 4", ahead().number(0, 2).plain("1110 00 110 110").plain("0 10 11 11 10 10"), "0", 0, 1, 3, 4, 4, 3, 3);
    }

    private static void marksAtTheEnd() {
        for (int at = 1; at < 18; at++) {
            // Mark 1 and another one, of LENGTH 1 and 2, and nothing more.
            Bits row = ahead().number(0, 2).plain(TOLD[1]).plain("00".repeat(at - 1)).plain(TOLD[2]).plain("00".repeat(17 - at));
            broken("two marks, 24 of 32, the second at " + at, row, 13);
            row = ahead().number(0, 2).plain(TOLD[1]).plain("00".repeat(at - 1)).plain(TOLD[1]).plain("0 0");
            if (ORDER[at] == 0) {
                // Mark 0 is the lesser one.
                told("two marks, the second 0", ahead().number(0, 2).plain(TOLD[1]).plain("00".repeat(at - 1)).plain(TOLD[1])
                    .plain("0 1 1"), "0", 1, 0, 1, 1);
            } else {
                told("two marks, 32, the second at " + at, row, "0", 0, 1, 1);
            }
        }
    }

    /** 8 is the latest LENGTH at first. */
    private static void sixteenAtFirst() {
        for (int more = 0; more < 4; more++) {
            // 3 + more of LENGTH 8, then so many that it is seven of 256; 128, 64, 32, 16, 8 and one are the rest.
            Bits row = marks(allMarks(ahead()), 1600 + more);
            for (int k = 3 + more; k < 7; k++) {
                marks(row, 8);
            }
            told("16 at first with " + more, marks(row, 1, 2, 3, 4, 5, 8), "0", 7, rows(times(8, 7), new int[] {1, 2, 3, 4, 5, 8}));
        }
        // Behind 0s it is 8 as well.
        told("16 behind 0s", marks(allMarks(ahead()), 0, 0, 1600, 1, 2, 3, 4, 5, 6, 8), "0", 5,
            rows(times(0, 2), times(8, 3), new int[] {1, 2, 3, 4, 5, 6, 8}));
    }

    /** The latest that was not 0, be it before 0s of either mark. */
    private static void sixteenBehindLengths() {
        told("16 behind 3", marks(allMarks(ahead()), 3, 1603, 3), "111", 7, times(3, 8));
        told("16 behind 2, 0", marks(allMarks(ahead()), 0, 0, 2, 0, 1600), "11", 6, 0, 0, 2, 0, 2, 2, 2);
        told("16 behind 2, 17", marks(allMarks(ahead()), 2, 1707, 1600), "11", 13, rows(new int[] {2}, times(0, 10), times(2, 3)));
        told("16 behind 1, 3", marks(allMarks(ahead()), 1, 3, 1600), "0", 0, 1, 3, 3, 3, 3);
    }

    private static void sixteensTogether() {
        // 3; 4 (3 - 2) + 3 = 7; 4 (7 - 2) + 3 + 3 = 26: with the first and five more 32.
        told("16 thrice", marks(allMarks(ahead()), 5, 1600, 1600, 1603, 5, 5, 5, 5, 5), "11111", 31, times(5, 32));
        // 6; 4 (6 - 2) + 3 + 0 = 19; one, nineteen and twelve.
        told("16 twice", marks(allMarks(ahead()), 5, 1603, 1600, 5, 1603, 5, 5, 5, 5, 5), "11111", 31, times(5, 32));
        // Twice at first: 3 and 4 more of LENGTH 8.
        told("16 twice at first", marks(allMarks(ahead()), 1600, 1600, 1, 2, 3, 4, 5, 8), "0", 7,
            rows(times(8, 7), new int[] {1, 2, 3, 4, 5, 8}));
    }

    private static void sixteensApart() {
        // Behind another LENGTH, a 0, a 17 it is not the same mark: 3 each.
        told("16, 5, 16", marks(allMarks(ahead()), 5, 1600, 5, 1600, 5, 1603, 5, 1603, 5, 1603, 5, 5, 5), "11111", 31, times(5, 32));
        told("16, 0, 16", marks(allMarks(ahead()), 3, 1600, 0, 1600, 3), "111", 8, 3, 3, 3, 3, 0, 3, 3, 3, 3);
        told("16, 17, 16", marks(allMarks(ahead()), 3, 1600, 1700, 1600, 3), "111", 10, 3, 3, 3, 3, 0, 0, 0, 3, 3, 3, 3);
    }

    private static void seventeensTogether() {
        for (int more = 0; more < 8; more++) {
            told("17 with " + more, marks(allMarks(ahead()), 1700 + more, 1, 1), "1", 4 + more, rows(times(0, 3 + more), times(1, 2)));
            // 3, then 8 (3 - 2) + 3 + more.
            told("17 twice, " + more, marks(allMarks(ahead()), 1700, 1700 + more, 1, 1), "1", 12 + more,
                rows(times(0, 11 + more), times(1, 2)));
        }
        // 3, 11, 8 (11 - 2) + 3 + 7 = 82.
        told("17 thrice", marks(allMarks(ahead()), 1700, 1700, 1707, 1, 1), "0", 82, rows(times(0, 82), times(1, 2)));
    }

    private static void seventeensApart() {
        told("17, 0, 17", marks(allMarks(ahead()), 1700, 0, 1700, 1, 1), "1", 8, rows(times(0, 7), times(1, 2)));
        told("17, 1, 17", marks(allMarks(ahead()), 1700, 1, 1700, 1), "1", 7, 0, 0, 0, 1, 0, 0, 0, 1);
        told("17, 16, 17", marks(allMarks(ahead()), 2, 1700, 1600), "11", 6, 2, 0, 0, 0, 2, 2, 2);
        told("17, 16, 17, 2", marks(allMarks(ahead()), 3, 1700, 1600, 1700, 2, 2), "00", 10,
            3, 0, 0, 0, 3, 3, 3, 0, 0, 0, 2, 2);
    }

    /** At 32,768 nothing more is read: others have none. */
    private static void lengthsEndAt32768() {
        told("1, 1", marks(allMarks(ahead()), 1, 1), "1", 1, 1, 1);
        told("2, and 3 by a run", marks(allMarks(ahead()), 2, 1600), "11", 3, 2, 2, 2, 2);
        told("1, 2, 3, 3", marks(allMarks(ahead()), 1, 2, 3, 3), "111", 3, 1, 2, 3, 3);
    }

    private static void sumAbove32768() {
        int[][] above = {{1, 2, 1}, {2, 1601}, {1, 1600}, {1, 2, 3, 4, 5, 6, 7, 8, 9, 10, 11, 12, 13, 14, 15, 14},
            {3, 3, 3, 3, 3, 3, 3, 2}, {15, 1, 1}, {1603, 1603, 1603, 1603}};
        for (int[] one : above) {
            broken("a sum above 32,768 by " + one.length + " marks", marks(allMarks(ahead()), one), 14);
        }
    }

    private static int[] zeros254() {
        // 82 by three 17s, a 0, 82 more, a 0, 82 more are 248; six 0s.
        return new int[] {1700, 1700, 1707, 0, 1700, 1700, 1707, 0, 1700, 1700, 1707, 0, 0, 0, 0, 0, 0};
    }

    private static void lengthsUpToTheLastSign() {
        Bits row = marks(allMarks(ahead()), zeros254());
        // 82 + 1 + 82 + 1 + 82 + 6 = 254.
        told("signs 254 and 255", marks(row.copy(), 1, 1), "1", 255, rows(times(0, 254), times(1, 2)));
        broken("sign 255 alone, a half of all", marks(row.copy(), 0, 1), 14);
        broken("no sign at all", marks(row.copy(), 0, 0), 14);
        broken("the last two, three quarters", marks(row.copy(), 1, 2), 14);
    }

    private static void moreLengthsThanSigns() {
        Bits row = marks(allMarks(ahead()), zeros254());
        broken("three 0s where two are left", marks(row.copy(), 1700), 14);
        broken("three LENGTHS where two are left", marks(row.copy(), 1600), 14);
        // Of a CODE of four signs (two KINDS): four 0s are all, five too many; 16 at first 8.
        for (int mark : new int[] {1700, 1701, 1702, 1707, 1600, 1601, 1602, 1603}) {
            row = allMarks(TestRows.start().plain("1 0 00").number(0, 16).plain("1 000"));
            marks(row, mark);
            if (mark == 1700 || mark == 1600) {
                int read = marks(row.copy(), 0).size();
                row.plain("0000").toWholeByte();
                TestRows.opened("four signs, " + mark + " and a 0", row, -24, read);
            } else {
                broken("four signs, " + mark, row, 14);
            }
        }
    }

    private static void lengthsOfCommandsAndDistances() {
        // 702 0s: 82 and a 0 eight times are 664; 17 twice, with 0 and 7, are 18; twenty 0s.
        Bits row = TestRows.lone(ahead(), 'a', 8);
        allMarks(row);
        for (int k = 0; k < 8; k++) {
            marks(row, 1700, 1700, 1707, 0);
        }
        marks(row, 1700, 1707);
        for (int k = 664 + 18; k < 702; k++) {
            marks(row, 0);
        }
        broken("three LENGTHS where two commands are left", marks(row.copy(), 1600), 14);
        marks(row, 1, 1);
        TestRows.lone(row, 63, 6);
        // The command 702: INSERT code 23, COPY code 22.
        row.plain("0").number(0, 24 + 10);
        int read = row.size();
        BrotliWords x = TestRows.opened("commands 702 and 703", row.toWholeByte(), -18, read);
        Check.due("LENGTH of 701", x.length(1, 0, 701), 0);
        Check.due("LENGTH of 702", x.length(1, 0, 702), 1);
        Check.due("LENGTH of 703", x.length(1, 0, 703), 1);
        // Distances of the most signs, 520: 518 0s: 82 and a 0 six times are 498; 20 0s.
        row = TestRows.start().plain("1 0 00").number(0, 16).plain("0 0 0").number(3, 2).number(15, 4).plain("00  0 0");
        TestRows.lone(row, 'a', 8);
        allMarks(TestRows.lone(row, TestRows.command(1, 0), 10));
        for (int k = 0; k < 6; k++) {
            marks(row, 1700, 1700, 1707, 0);
        }
        for (int k = 498; k < 518; k++) {
            marks(row, 0);
        }
        broken("three 0s where two distances are left", marks(row.copy(), 1700), 14);
        marks(row, 1, 1);
        x = new BrotliWords();
        TestRows.opened(x, "distances 518 and 519", row, "a");
        Check.due("LENGTH of 517", x.length(2, 0, 517), 0);
        Check.due("LENGTH of 518", x.length(2, 0, 518), 1);
        Check.due("LENGTH of 519", x.length(2, 0, 519), 1);
        Check.due("LENGTH of 520", x.length(2, 0, 520), -1);
    }

    private static void longestLength() {
        int[] steep = {1, 2, 3, 4, 5, 6, 7, 8, 9, 10, 11, 12, 13, 14, 15, 15};
        told("LENGTH 15, the last", marks(allMarks(ahead()), steep), "1".repeat(15), 15, steep);
        told("LENGTH 15, the one before", marks(allMarks(ahead()), steep), "1".repeat(14) + "0", 14, steep);
        told("LENGTH 14", marks(allMarks(ahead()), steep), "1".repeat(13) + "0", 13, steep);
        // With a bit less of it the row of bits ends.
        for (int bits = 0; bits < 15; bits++) {
            for (int shift = 0; shift < 8; shift++) {
                Bits one = behind(marks(allMarks(TestRows.lastHead(TestRows.shift(TestRows.start(), shift), 1)), steep));
                one.plain("1".repeat(bits));
                if (one.size() % 8 == 0) {
                    TestRows.opened("LENGTH 15, " + bits + " bits of it", one, -11, one.size());
                }
            }
        }
    }

    /** By LENGTH, like ones by number, the highest bit first. */
    private static void orderOfCodes() {
        // Of LENGTH 1: 0; of 3: 100, 101, 110; of 4: 1110, 1111.
        int[] lengths = {3, 1, 4, 3, 4, 0, 3};
        String[] codes = {"100", "0", "1110", "101", "1111", null, "110"};
        for (int s = 0; s < lengths.length; s++) {
            if (codes[s] != null) {
                told("code of " + s, marks(allMarks(ahead()), lengths), codes[s], s, lengths);
            }
        }
    }

    /** Marks that an earlier CODE told, and that this one does not tell, have LENGTH 0. */
    private static void nothingStaysFromTheCodeBefore() {
        Bits row = marks(allMarks(ahead()), 1, 1);
        TestRows.lone(row, TestRows.command(1, 0), 10);
        BrotliWords x = new BrotliWords();
        TestRows.opened(x, "marks 1 and 2 behind all marks", row.copy().plain("00 1110 1110 1 0 1").plain("0"), "" + (char) 0);
        Check.due("LENGTH of distance 0", x.length(2, 0, 0), 2);
        Check.due("LENGTH of distance 1", x.length(2, 0, 1), 1);
        Check.due("LENGTH of distance 2", x.length(2, 0, 2), 2);
        broken("a lone mark 0 behind all marks", row.copy().plain("00 00 00 00 00 1110").plain("00".repeat(13)), 14);
        broken("no mark behind all marks", row.copy().plain("00").plain("00".repeat(18)), 13);
        // The latest LENGTH is 8 at first again, and a 16 is not together with that of the CODE before.
        row = marks(allMarks(ahead()), 2, 1600);
        TestRows.lone(row, TestRows.command(1, 0), 10);
        marks(allMarks(row), 1600, 1, 2, 3, 4, 5, 6, 8);
        TestRows.opened(x, "a 16 behind a 16", row.plain("00"), "" + (char) 0);
        for (int sign = 0; sign < 3; sign++) {
            Check.due("LENGTH of distance " + sign, x.length(2, 0, sign), 8);
        }
        Check.due("LENGTH of distance 3", x.length(2, 0, 3), 1);
    }

    /** A PART of one literal with so many KINDS of literals, up to its TREES of literals. */
    private static Bits aheadOfMap(int kinds) {
        Bits row = TestRows.howMany(TestRows.start().plain("1 0 00").number(0, 16), kinds);
        if (kinds > 1) {
            TestRows.lone(row, 0, kinds == 2 ? 2 : 4);
            TestRows.lone(row, 25, 5).number(0, 24);
        }
        return row.plain("0 0  00 0000").number(0, 2 * kinds);
    }

    /** Behind a MAP of literals: TREES of distances 1, the CODES; the literal of TREE t is 'a' + t. */
    private static BrotliWords mapped(String name, Bits row, int trees, int... map) {
        row.plain("0");
        for (int tree = 0; tree < trees; tree++) {
            TestRows.lone(row, 'a' + tree, 8);
        }
        BrotliWords x = new BrotliWords();
        TestRows.opened(x, name, behind(row), "" + (char) ('a' + map[0]));
        for (int i = 0; i < map.length; i++) {
            Check.due(name + ": map(0, " + i + ")", x.map(0, i), map[i]);
        }
        Check.due(name + ": map() behind it", x.map(0, map.length), -1);
        return x;
    }

    private static void mapWithoutRuns() {
        Bits row = TestRows.howMany(aheadOfMap(1), 2).plain("0");
        TestRows.two(row, 0, 1, 1);
        mapped("TREES by turns", row.plain("10".repeat(32)).plain("0"), 2, java.util.stream.IntStream.range(0, 64)
            .map(i -> 1 - i % 2).toArray());
        row = TestRows.howMany(aheadOfMap(1), 3).plain("0");
        row.number(1, 2).number(2, 2).number(0, 2).number(1, 2).number(2, 2);
        mapped("TREES 2, 1 and 0s", row.plain("11 10").plain("0".repeat(62)).plain("0"), 3, rows(new int[] {2, 1}, times(0, 62)));
        // Without a MAP all is TREE 0, for each KIND.
        mapped("no MAP", TestRows.howMany(aheadOfMap(1), 1), 1, times(0, 64));
        mapped("no MAP, 12 KINDS", TestRows.howMany(aheadOfMap(12), 1), 1, times(0, 768));
    }

    /** Sign k means 2^k and k bits: from 2 (k = 1) to 768 0s (k = 9), least and most. */
    private static void runsOfEachSize() {
        for (int k = 1; k <= 9; k++) {
            int kinds = k < 6 ? 1 : 12;
            int n = 64 * kinds;
            for (int runs : new int[] {k, 16}) {
                for (int many : new int[] {1 << k, Math.min((2 << k) - 1, n)}) {
                    // TREES 2: sign k and the last one, which is TREE 1.
                    Bits row = TestRows.howMany(aheadOfMap(kinds), 2).plain("1").number(runs - 1, 4);
                    int a = 2 + runs;
                    TestRows.two(row, k, runs + 1, 32 - Integer.numberOfLeadingZeros(a - 1));
                    row.plain("0").number(many - (1 << k), k).plain("1".repeat(n - many)).plain("0");
                    mapped("a run of " + many + ", RUNS " + runs, row, 2, rows(times(0, many), times(1, n - many)));
                }
            }
        }
    }

    private static void runBeyondTheMap() {
        for (int k = 1; k <= 16; k++) {
            for (int before = 0; before < 64; before++) {
                int left = 64 - before;
                for (int many : new int[] {1 << k, left, left + 1, (2 << k) - 1}) {
                    if (many < 1 << k || many >= 2 << k) {
                        continue;
                    }
                    Bits row = TestRows.howMany(aheadOfMap(1), 2).plain("1").number(15, 4);
                    TestRows.two(row, k, 17, 5);
                    row.plain("1".repeat(before)).plain("0").number(many - (1 << k), k);
                    if (many > left) {
                        int read = row.size();
                        BrotliWords x = new BrotliWords();
                        Check.feedAll(x, row.toWholeByte().bytes());
                        Check.due("a run of " + many + " of " + left, x.open(), -25);
                        Check.due("a run of " + many + " of " + left + ": read()", x.read(), read);
                        Check.due("TREES were told", x.part(0, 5), 2);
                    }
                }
            }
        }
        // A MAP of distances has 4 numbers.
        Bits row = aheadOfMap(1).plain("0");
        TestRows.howMany(row, 2).plain("1").number(1, 4);
        TestRows.two(row, 2, 3, 2);
        broken("a run of 5 of 4", row.copy().plain("0").number(1, 2), 15);
        broken("a run of 4 of 3", row.copy().plain("1 0").number(0, 2), 15);
        row.plain("0").number(0, 2).plain("0");
        TestRows.lone(row, 'a', 8);
        TestRows.lone(row, TestRows.command(1, 0), 10);
        TestRows.lone(row, 0, 6);
        TestRows.lone(row, 0, 6);
        TestRows.opened(new BrotliWords(), "a run of 4 of 4", row, "a");
    }

    /** Sign 0 is a 0; RUNS and 1 is TREE 1; the last one is the last TREE. */
    private static void signsOfAMap() {
        for (int runs : new int[] {1, 2, 16}) {
            for (int trees : new int[] {2, 12}) {
                Bits row = TestRows.howMany(aheadOfMap(1), trees).plain("1").number(runs - 1, 4);
                int a = trees + runs;
                int width = 32 - Integer.numberOfLeadingZeros(a - 1);
                // Signs 0, RUNS + 1 and, of twelve, the last one: 0, 10, 11.
                row.number(1, 2).number(trees == 2 ? 1 : 2, 2).number(0, width).number(runs + 1, width);
                int[] due = rows(new int[] {1, 0, 1}, times(0, 61));
                if (trees == 12) {
                    row.number(a - 1, width).plain("11 10 0 11").plain("0".repeat(60));
                    due = rows(new int[] {11, 1, 0, 11}, times(0, 60));
                } else {
                    row.plain("1 0 1").plain("0".repeat(61));
                }
                mapped(trees + " TREES, RUNS " + runs, row.plain("0"), trees, due);
            }
        }
    }

    private static void movedToTheFront() {
        // Twelve TREES, no RUNS: the place 11 again and again gives 11, 10, .. 0, 11, ..
        Bits row = TestRows.howMany(aheadOfMap(1), 12).plain("0");
        TestRows.lone(row, 11, 4);
        int[] due = new int[64];
        for (int i = 0; i < 64; i++) {
            due[i] = 11 - i % 12;
        }
        mapped("place 11 of 12", row.plain("1"), 12, due);
        // Place 0 leaves all as it is: 0s.
        row = TestRows.howMany(aheadOfMap(1), 12).plain("0");
        mapped("place 0 of 12", TestRows.lone(row, 0, 4).plain("1"), 12, times(0, 64));
        // Runs of 0s are places, too: 3 of 0s behind a 1 are 1s.
        row = TestRows.howMany(aheadOfMap(1), 2).plain("1").number(0, 4);
        row.number(1, 2).number(2, 2).number(2, 2).number(0, 2).number(1, 2);
        // Sign 2 (TREE 1) is 0, sign 0 is 10, sign 1 (a run of 2 or 3) is 11: 1, 3 times 0, 1, 0, 58 0s.
        row.plain("0").plain("11 1").plain("0").plain("10").plain("10".repeat(58)).plain("1");
        mapped("runs of places", row, 2, rows(times(1, 4), times(0, 60)));
    }

    /** Numbers of earlier MAPS do not stay where there is none or where 0s are run over, nor their row moved. */
    private static void nothingStaysFromTheMapBefore() {
        for (int many = 1; many <= 3; many++) {
            for (int way = 0; way < 3; way++) {
                Bits row = TestRows.start();
                for (int k = 0; k < many; k++) {
                    row.plain("0 00").number(0, 16).plain("0").plain("0 0 0  00 0000  00");
                    // A MAP of 1s, and one of distances moved to the front, which leaves 1 there: 1, 0, 0, 0 are 1s.
                    TestRows.lone(TestRows.howMany(row, 2).plain("0"), 1, 1).plain("0");
                    TestRows.two(TestRows.howMany(row, 2).plain("0"), 0, 1, 1).plain("1 0 0 0 1");
                    TestRows.lone(row, 'a', 8);
                    TestRows.lone(row, 'b', 8);
                    TestRows.lone(row, TestRows.command(1, 0), 10);
                    TestRows.lone(row, 0, 6);
                    TestRows.lone(row, 0, 6);
                }
                row.plain("1 0 00").number(0, 16).plain("0 0 0  00 0000  00");
                String name = "way " + way + " behind " + many;
                int[] due = new int[64];
                int trees = way == 0 ? 1 : 2;
                if (way == 0) {
                    row.plain("0");
                } else if (way == 1) {
                    // RUNS 6: a run of 64.
                    TestRows.lone(TestRows.howMany(row, 2).plain("1").number(5, 4), 6, 3).number(0, 6).plain("0");
                } else {
                    // Moved to the front: 0s and a 1 at the end.
                    TestRows.two(TestRows.howMany(row, 2).plain("0"), 0, 1, 1).plain("0".repeat(63)).plain("1 1");
                    due[63] = 1;
                }
                row.plain("0");
                for (int tree = 0; tree < trees; tree++) {
                    TestRows.lone(row, 'y' + tree, 8);
                }
                BrotliWords x = new BrotliWords();
                // The byte before is 'b', but for the first PART: CONTEXT 34.
                TestRows.opened(x, name, behind(row), "b".repeat(many) + "y");
                for (int i = 0; i < 64; i++) {
                    Check.due(name + ": map(0, " + i + ")", x.map(0, i), due[i]);
                }
                for (int i = 0; i < 4; i++) {
                    Check.due(name + ": map(1, " + i + ")", x.map(1, i), 0);
                }
            }
        }
    }

    /** Twelve KINDS and twelve TREES: a MAP of 768 and one of 48, and the last TREE's CODE. */
    private static void mapsOfTwelve() {
        Bits row = TestRows.start().plain("1 0 00").number(0, 16);
        for (int sort = 0; sort < 3; sort++) {
            TestRows.howMany(row, 12);
            TestRows.lone(row, 0, 4);
            TestRows.lone(row, 25, 5).number(0, 24);
        }
        row.plain("00 0000").number(0, 24);
        for (int n : new int[] {768, 48}) {
            TestRows.howMany(row, 12).plain("0");
            TestRows.two(row, 0, 11, 4);
            row.plain("0".repeat(n - 1)).plain("1").plain("0");
        }
        for (int k = 0; k < 12; k++) {
            TestRows.lone(row, 'a' + k, 8);
        }
        for (int k = 0; k < 11; k++) {
            TestRows.lone(row, TestRows.command(1, 0), 10);
        }
        TestRows.two(row, 5, 600, 10);
        for (int k = 0; k < 11; k++) {
            TestRows.lone(row, 0, 6);
        }
        TestRows.two(row, 7, 63, 6);
        BrotliWords x = new BrotliWords();
        TestRows.opened(x, "twelve of all", row, "a");
        Check.due("map(0, 766)", x.map(0, 766), 0);
        Check.due("map(0, 767)", x.map(0, 767), 11);
        Check.due("map(0, 768)", x.map(0, 768), -1);
        Check.due("map(1, 46)", x.map(1, 46), 0);
        Check.due("map(1, 47)", x.map(1, 47), 11);
        Check.due("map(1, 48)", x.map(1, 48), -1);
        Check.due("the last KIND of commands", x.length(1, 11, 600), 1);
        Check.due("none behind it", x.length(1, 12, 600), -1);
        Check.due("the last TREE of distances", x.length(2, 11, 63), 1);
        Check.due("none behind it", x.length(2, 12, 63), -1);
        Check.due("the last TREE of literals", x.length(0, 11, 'l'), 0);
        Check.due("none behind it", x.length(0, 12, 'l'), -1);
        Check.due("the KIND of commands before it", x.length(1, 10, 600), 0);
        Check.due("the TREE of distances before it", x.length(2, 10, 63), 0);
        for (int what = 2; what <= 6; what++) {
            Check.due("part(0, " + what + ")", x.part(0, what), 12);
        }
    }
}
