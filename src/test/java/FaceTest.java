import java.io.IOException;
import java.lang.reflect.Constructor;
import java.lang.reflect.Field;
import java.lang.reflect.Member;
import java.lang.reflect.Method;
import java.lang.reflect.Modifier;
import java.nio.file.Files;
import java.nio.file.Path;
import java.util.Arrays;
import java.util.Random;
import java.util.Set;
import java.util.TreeSet;
import java.util.regex.Matcher;
import java.util.regex.Pattern;

/** The public face, the rules of LANGUAGE.md that can be seen, and calls by chance that must never throw. */
public final class FaceTest {
    private static final String[] FACE = {"feed 5", "end 1", "bits 2", "spoil 2", "wipe 0", "word 0", "clear 0", "digest 0",
        "changed 4", "pack 1", "open 0", "pass 0", "out 1", "read 0", "part 2", "ring 1", "map 2", "length 3", "command 2",
        "count 1"};

    public static void main(String[] args) throws IOException {
        face();
        source();
        chance();
        Check.finish();
    }

    private static void face() {
        Set<String> seen = new TreeSet<>();
        Set<String> names = new TreeSet<>();
        for (Method method : BrotliWords.class.getDeclaredMethods()) {
            if (Modifier.isPublic(method.getModifiers())) {
                seen.add(method.getName() + " " + method.getParameterCount());
                names.add(method.getName());
            }
        }
        Check.due("public methods " + seen, seen.equals(new TreeSet<>(Arrays.asList(FACE))) ? 1 : 0, 1);
        for (Method method : BrotliWords.class.getDeclaredMethods()) {
            hidden(method, !names.contains(method.getName()));
        }
        for (Constructor<?> one : BrotliWords.class.getDeclaredConstructors()) {
            Check.due("constructor", Modifier.isPublic(one.getModifiers()) && one.getParameterCount() == 0 ? 1 : 0, 1);
        }
        for (Field field : BrotliWords.class.getDeclaredFields()) {
            hidden(field, !Set.of("BAD", "NONE", "FULL").contains(field.getName()));
        }
        for (Class<?> inside : BrotliWords.class.getDeclaredClasses()) {
            Check.due(inside.getName() + " is static", Modifier.isStatic(inside.getModifiers()) ? 1 : 0, 1);
            for (Method method : inside.getDeclaredMethods()) {
                Check.due(inside.getName() + "." + method.getName() + " bears no public name",
                    names.contains(method.getName()) ? 0 : 1, 1);
            }
            int fields = 0;
            for (Field field : inside.getDeclaredFields()) {
                fields += Modifier.isStatic(field.getModifiers()) ? 0 : 1;
            }
            Check.due(inside.getName() + " has some twenty fields", fields <= 20 ? 1 : 0, 1);
        }
        Check.due("BAD", BrotliWords.BAD, -1);
        Check.due("NONE", BrotliWords.NONE, -2);
        Check.due("FULL", BrotliWords.FULL, -3);
    }

    private static void hidden(Member member, boolean isHidden) {
        if (isHidden) {
            Check.due(member.getName() + " is private", Modifier.isPrivate(member.getModifiers()) ? 1 : 0, 1);
        }
    }

    private static void source() throws IOException {
        String text = Files.readString(Path.of("src/main/java/BrotliWords.java"));
        text = Pattern.compile("/\\*.*?\\*/|//[^\n]*", Pattern.DOTALL).matcher(text).replaceAll("");
        String[] barred = {"throw", "throws", "try", "catch", "assert", "synchronized", "record", "interface", "package"};
        for (String word : barred) {
            Matcher matcher = Pattern.compile("\\b" + word + "\\b").matcher(text);
            Check.due("the source has " + word, matcher.find() ? 1 : 0, 0);
        }
        for (String sign : new String[] {"->", "::", "Exact", "System.", "static {"}) {
            Check.due("the source has " + sign, text.contains(sign) ? 1 : 0, 0);
        }
        Matcher imports = Pattern.compile("import ([^;]*);").matcher(text);
        while (imports.find()) {
            Check.due("import " + imports.group(1), imports.group(1).equals("java.util.Arrays") ? 1 : 0, 1);
        }
    }

    /** Whole rows that are spoiled a little, and numbers at all edges: whatever comes, an answer comes. */
    private static void chance() {
        int[] edges = {0, 1, -1, 2, 3, 4, 7, 12, 16, 20, 32, 59, 60, 255, 256, 704, Integer.MAX_VALUE, Integer.MIN_VALUE};
        for (int seed = 1; seed <= 300; seed++) {
            Random random = new Random(seed);
            BrotliWords x = new BrotliWords();
            for (int k = 0; k < 400; k++) {
                int a = edges[random.nextInt(edges.length)];
                int b = random.nextBoolean() ? edges[random.nextInt(edges.length)] : random.nextInt(300) - 2;
                int c = random.nextBoolean() ? random.nextInt(8) : random.nextInt();
                call(x, random, new int[] {a, b, c});
            }
            Check.due("seed " + seed + " came to its end", 1, 1);
        }
    }

    private static int call(BrotliWords x, Random random, int[] v) {
        return switch (random.nextInt(26)) {
            case 0, 1, 2 -> x.feed(random.nextInt(), v[0], 0x61626162, v[1], v[2]);
            case 3 -> x.end(random.nextInt(22));
            case 4 -> x.bits(x.digest(), 16);
            case 5 -> x.bits(v[1], v[2]);
            case 6 -> x.spoil(v[1], v[0]);
            case 7 -> x.wipe();
            case 8 -> x.word();
            case 9 -> random.nextInt(10) == 0 ? x.clear() : x.spoil(random.nextInt(40), 1 << random.nextInt(8));
            case 10 -> x.digest();
            case 11 -> x.changed(v[2], v[0], v[1], v[2]);
            case 12 -> x.pack(random.nextInt(4));
            case 13, 14 -> x.open();
            case 15, 16 -> x.pass();
            case 17 -> x.out(v[1]);
            case 18 -> x.read();
            case 19 -> x.part(v[0], v[2]);
            case 20 -> x.ring(v[0]);
            case 21 -> x.map(v[2], v[1]);
            case 22 -> x.length(v[2], v[0], v[1]);
            case 23 -> x.command(v[0], v[2]);
            case 24 -> x.count(v[2]);
            default -> x.spoil(3 + random.nextInt(30), 1 << random.nextInt(8));
        };
    }
}
