import java.io.IOException;
import java.nio.file.Files;
import java.nio.file.Path;

/** What README.md shows as the use of the class does what README.md says of it. */
public final class ReadmeTest {
    public static void main(String[] args) throws IOException {
        String readme = Files.readString(Path.of("README.md"));
        for (String call : new String[] {"x.feed(0x00010101, 0x078c8d15, 0x8e060e00, 0, 0);", "x.cut(11);",
            "x.take(0);", "x.run(0);"}) {
            Checks.due("README.md shows " + call, readme.contains(call) ? 1 : 0, 1);
        }
        CharOutlines x = new CharOutlines();
        x.feed(0x00010101, 0x078c8d15, 0x8e060e00, 0, 0);
        x.cut(11);
        Checks.due("take", x.take(0), 1);
        Checks.due("run", x.run(0), 2);
        Checks.due("outline", Checks.outline(x, 2), "M1,2 L4,2");
        for (int answer = CharOutlines.WORK; answer <= CharOutlines.NONE; answer++) {
            Checks.due("README.md explains the answer " + answer, readme.contains("| " + answer + " |") ? 1 : 0, 1);
        }
        Checks.finish();
    }
}
