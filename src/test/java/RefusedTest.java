import java.util.ArrayList;
import java.util.List;
import java.util.function.Supplier;
import java.util.function.ToIntFunction;

/** All promises: a call that is refused leaves all as it is, seen by a twin to which it did not come. */
public final class RefusedTest {
    private static final int BAD = BrotliWords.BAD, FULL = BrotliWords.FULL;
    private static final int MIN = Integer.MIN_VALUE, MAX = Integer.MAX_VALUE;

    public static void main(String[] args) {
        onANewObject();
        onOneThatHasAll();
        onAFullTape();
        onAFullLength();
        onALargeOut();
        onManyBytes();
        Check.finish();
    }

    /** Two like objects; the refused call comes to one of them; then both are asked for all. */
    private static void refused(String name, Supplier<BrotliWords> maker, ToIntFunction<BrotliWords> call, int due) {
        BrotliWords x = maker.get();
        BrotliWords twin = maker.get();
        Check.due(name, call.applyAsInt(x), due);
        List<Integer> got = seen(x);
        List<Integer> want = seen(twin);
        Check.due(name + ": as many answers", got.size(), want.size());
        for (int i = 0; i < want.size(); i++) {
            Check.due(name + ": answer " + i, got.get(i), want.get(i));
        }
    }

    private static List<Integer> seen(BrotliWords x) {
        List<Integer> seen = new ArrayList<>();
        for (int what = 0; what < 5; what++) {
            seen.add(x.count(what));
        }
        seen.add(x.digest());
        seen.add(x.read());
        for (int i = 0; i < 4; i++) {
            seen.add(x.ring(i));
        }
        for (int i = 0; i < 30; i++) {
            seen.add(x.out(i));
            seen.add(x.changed(4, i, 7, i % 4));
        }
        for (int i = 0; i < 3; i++) {
            for (int what = 0; what < 12; what++) {
                seen.add(x.part(i, what));
            }
            for (int what = 0; what < 4; what++) {
                seen.add(x.command(i, what));
            }
        }
        for (int i = 0; i < 20; i++) {
            seen.add(x.map(i / 10, i));
            seen.add(x.length(i / 8, 0, 97 + i));
        }
        // The next bits go on where they would have, and the bytes of the TAPE are what they were.
        seen.add(x.bits(5, 3));
        int size = x.count(1);
        for (int i = 0; i < 60; i++) {
            seen.add(x.spoil(i, 1));
            seen.add(x.spoil(size - 1 - i, 1));
        }
        seen.add(x.pack(1));
        seen.add(x.open());
        return seen;
    }

    private static BrotliWords withAll() {
        BrotliWords x = new BrotliWords();
        Check.addWord(x, "word");
        Check.addWord(x, "text");
        Check.addWord(x, "longer");
        Check.feedAll(x, "a word, a text and a word, a text, a longer one");
        x.pack(2);
        x.pass();
        x.open();
        Check.feedAll(x, "a tape of some bytes");
        x.bits(6, 3);
        return x;
    }

    private static BrotliWords ofSize(int size) {
        BrotliWords x = new BrotliWords();
        for (int i = 0; i < size; i += 20) {
            x.feed(i, 2 * i, 3 * i, 4 * i, 5 * i);
        }
        if (size % 20 != 0) {
            x.end(size % 20);
        }
        x.bits(5, 3);
        return x;
    }

    private static void onANewObject() {
        Supplier<BrotliWords> maker = BrotliWords::new;
        refused("end(0) of nothing", maker, x -> x.end(0), BAD);
        refused("bits(1, 0)", maker, x -> x.bits(1, 0), BAD);
        refused("bits(1, 33)", maker, x -> x.bits(1, 33), BAD);
        refused("spoil(0, 1) of nothing", maker, x -> x.spoil(0, 1), BAD);
        refused("word() of nothing", maker, BrotliWords::word, BAD);
        refused("changed() of nothing", maker, x -> x.changed(4, 0, 0, -1), BAD);
        refused("pack(3) of nothing", maker, x -> x.pack(3), BAD);
        refused("pack(-1) of nothing", maker, x -> x.pack(-1), BAD);
        refused("out(0) of nothing", maker, x -> x.out(0), BAD);
        refused("part(0, 0) of nothing", maker, x -> x.part(0, 0), BAD);
        refused("ring(4)", maker, x -> x.ring(4), BAD);
        refused("map(0, 0) of nothing", maker, x -> x.map(0, 0), BAD);
        refused("length(0, 0, 0) of nothing", maker, x -> x.length(0, 0, 0), BAD);
        refused("command(0, 0) of nothing", maker, x -> x.command(0, 0), BAD);
        refused("count(5)", maker, x -> x.count(5), BAD);
    }

    private static void onOneThatHasAll() {
        Supplier<BrotliWords> maker = RefusedTest::withAll;
        for (int n : new int[] {-1, 21, MIN, MAX}) {
            refused("end(" + n + ")", maker, x -> x.end(n), BAD);
        }
        for (int n : new int[] {0, -1, 33, MIN, MAX}) {
            refused("bits(-1, " + n + ")", maker, x -> x.bits(-1, n), BAD);
        }
        for (int i : new int[] {-1, 21, MIN, MAX}) {
            refused("spoil(" + i + ", 1)", maker, x -> x.spoil(i, 1), BAD);
        }
        for (int mask : new int[] {0, -1, 256, MIN, MAX}) {
            refused("spoil(0, " + mask + ")", maker, x -> x.spoil(0, mask), BAD);
        }
        refused("word() of 21", maker, BrotliWords::word, BAD);
        refused("changed(), no LENGTH", maker, x -> x.changed(5, 0, 0, -1), BAD);
        refused("changed(), no number", maker, x -> x.changed(4, 2, 0, -1), BAD);
        refused("changed(), no CHANGE", maker, x -> x.changed(4, 0, 24, -1), BAD);
        refused("changed(), no byte", maker, x -> x.changed(4, 0, 0, 4), BAD);
        for (int level : new int[] {-1, 3, MIN, MAX}) {
            refused("pack(" + level + ")", maker, x -> x.pack(level), BAD);
        }
        refused("out(47)", maker, x -> x.out(47), BAD);
        refused("out(-1)", maker, x -> x.out(-1), BAD);
        refused("part(1, 0)", maker, x -> x.part(1, 0), BAD);
        refused("part(0, 12)", maker, x -> x.part(0, 12), BAD);
        refused("ring(-1)", maker, x -> x.ring(-1), BAD);
        refused("map(2, 0)", maker, x -> x.map(2, 0), BAD);
        refused("map(0, 64)", maker, x -> x.map(0, 64), BAD);
        refused("length(3, 0, 0)", maker, x -> x.length(3, 0, 0), BAD);
        refused("length(0, 1, 0)", maker, x -> x.length(0, 1, 0), BAD);
        refused("length(0, 0, 256)", maker, x -> x.length(0, 0, 256), BAD);
        refused("command(-1, 0)", maker, x -> x.command(-1, 0), BAD);
        refused("command(0, 4)", maker, x -> x.command(0, 4), BAD);
        refused("count(-1)", maker, x -> x.count(-1), BAD);
    }

    private static void onAFullTape() {
        refused("feed() on 2,382", () -> ofSize(2381), x -> x.feed(-1, -1, -1, -1, -1), FULL);
        refused("bits(-1, 32) on 2,396 and three bits", () -> ofSize(2396), x -> x.bits(-1, 32), FULL);
        refused("bits(-1, 6) on 2,399 and three bits", () -> ofSize(2399), x -> x.bits(-1, 6), FULL);
        refused("bits(-1, 1) on 2,400", () -> ofSize(2400), x -> x.bits(-1, 1), FULL);
    }

    private static void onAFullLength() {
        Supplier<BrotliWords> maker = () -> {
            BrotliWords x = new BrotliWords();
            for (int i = 0; i < 32; i++) {
                x.bits(77777 * i, 32);
                x.word();
            }
            x.bits(99, 27);
            return x;
        };
        refused("word() of a full LENGTH", maker, BrotliWords::word, FULL);
    }

    private static void onALargeOut() {
        Supplier<BrotliWords> maker = () -> {
            BrotliWords x = new BrotliWords();
            Check.feedAll(x, TestRows.manyZ(TestRows.start(), 2401).plain("11").toWholeByte().bytes());
            x.open();
            Check.feedAll(x, "some bytes and some bits");
            x.bits(2, 2);
            return x;
        };
        refused("pass() of 2,401", maker, BrotliWords::pass, FULL);
    }

    private static void onManyBytes() {
        for (int level = 0; level < 3; level++) {
            int by = level;
            refused("pack(" + level + ") of 2,001", () -> ofSize(2000), x -> x.pack(by), BAD);
        }
    }
}
