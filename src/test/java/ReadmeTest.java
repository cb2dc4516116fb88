import java.io.IOException;
import java.nio.file.Files;
import java.nio.file.Path;

/** README.md's example: each call stands there with the answer that it has. */
public final class ReadmeTest {
    private static String text;

    public static void main(String[] args) throws IOException {
        text = Files.readString(Path.of("README.md"));
        BrotliWords x = new BrotliWords();
        stands("x.feed(0x74696d65, 0, 0, 0, 0);", x.feed(0x74696d65, 0, 0, 0, 0));
        stands("x.end(4);", x.end(4));
        stands("x.word();", x.word());
        stands("x.feed(0x74696d65, 0x20746f20, 0x74696d65, 0, 0);", x.feed(0x74696d65, 0x20746f20, 0x74696d65, 0, 0));
        stands("x.end(12);", x.end(12));
        stands("x.pack(2);", x.pack(2));
        stands("x.command(0, 1);", x.command(0, 1));
        stands("x.pass();", x.pass());
        stands("x.open();", x.open());
        stands("x.out(0);", x.out(0));
        stands("x.read();", x.read());
        stands("x.part(0, 9);", x.part(0, 9));
        Check.due("OUT is what was fed", Check.outOf(x).equals("time to time") ? 1 : 0, 1);
        Check.finish();
    }

    private static void stands(String call, int answer) {
        int told = -1000;
        for (String line : text.split("\n")) {
            if (line.startsWith(call)) {
                told = Integer.parseInt(line.substring(call.length()).replaceAll("^ *// (-?\\d+).*$", "$1"));
            }
        }
        Check.due("README.md: " + call, told, answer);
    }
}
