import java.io.IOException;
import java.nio.file.Files;
import java.nio.file.Path;

/** The calls of README.md's example: they stand there as they stand here, and answer what it says. */
public final class ReadmeTest {
    private static final Due due = new Due();

    public static void main(String[] args) throws IOException {
        String readme = Files.readString(Path.of("README.md"));
        String[] calls = {"sets.type(0x73697a6520323bL, 7);", "sets.type(0x6172632030L, 5);",
            "sets.type(0x3e313d35L, 4);", "int fault = sets.read();", "int cut = sets.value(1);",
            "int most = sets.least(2, 0, 0);", "sets.tell(0, 5);", "int surplus = sets.surplus();",
            "int turns = sets.turns();"};
        int from = 0;
        for (String call : calls) {
            int at = readme.indexOf(call, from);
            due.same("README.md has " + call + " in its place", at >= from ? 1 : 0, 1);
            from = Math.max(from, at);
        }
        answers();
        terms(readme);
        due.end();
    }

    private static void answers() {
        LeanSets sets = new LeanSets();
        due.same("size 2;", sets.type(0x73697a6520323bL, 7), 7);
        due.same("arc 0", sets.type(0x6172632030L, 5), 12);
        due.same(">1=5", sets.type(0x3e313d35L, 4), 16);
        due.same("read", sets.read(), 0);
        due.same("value", sets.value(1), 5);
        due.same("least", sets.least(2, 0, 0), 3);
        sets.tell(0, 5);
        due.same("surplus", sets.surplus(), -5);
        due.same("turns", sets.turns(), 1);
        due.same("turn above", sets.turn(0, 0), 0);
        due.same("turn below", sets.turn(0, 1), 1);
        due.same("turn set", sets.turn(0, 2), 3);
    }

    private static void terms(String readme) {
        String text = "size 4; weight 0 = -5; arc 1 > 2 = 7; curve {0 2 3} = 6 9 11";
        due.same("README.md has " + text, readme.contains(text) ? 1 : 0, 1);
        LeanSets sets = Due.of(text);
        due.same("0", sets.value(0b0001), -5 + 6);
        due.same("1", sets.value(0b0010), 7);
        due.same("1 and 2", sets.value(0b0110), 6);
        due.same("2 and 3", sets.value(0b1100), 9);
        due.same("all", sets.value(0b1111), -5 + 11);
    }
}
