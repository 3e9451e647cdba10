import java.io.IOException;
import java.lang.reflect.Method;
import java.lang.reflect.Modifier;
import java.nio.file.DirectoryStream;
import java.nio.file.Files;
import java.nio.file.Path;

/** README.md tells what is so: its examples answer as it says, and it names every call and every test. */
public final class ReadmeTest {
    private static final Probe probe = new Probe();

    public static void main(String[] args) throws IOException {
        String readme = Files.readString(Path.of("README.md"));
        blocksExample(readme);
        definitionsExample(readme);
        refusedExample();
        namesEveryCall(readme);
        namesEveryTest(readme);
        probe.finish();
    }

    private static void blocksExample(String readme) {
        MarkBlocks x = new MarkBlocks();
        x.feed(0x2d20610a, 0x2d20620a, 0, 0, 0);
        probe.due("end(8)", x.end(8), 8);
        says(readme, "x.read()", x.read(), 6);
        says(readme, "x.block(1, 0)", x.block(1, 0), 2);
        says(readme, "x.block(1, 3)", x.block(1, 3), 0);
        says(readme, "x.letter(3, false, 0)", x.letter(3, false, 0), 97);
    }

    private static void definitionsExample(String readme) {
        MarkBlocks x = new MarkBlocks();
        x.feed(0x5b416220, 0x635d3a20, 0x2f782022, 0x74220000, 0);
        probe.due("end(14)", x.end(14), 14);
        says(readme, "x.read()", x.read(), 1);
        says(readme, "x.definition(0, 1)", x.definition(0, 1), 2);
        says(readme, "x.defined(0, 1, 0)", x.defined(0, 1, 0), 47);
        x.wipe();
        x.feed(0x61422020, 0x43000000, 0, 0, 0);
        probe.due("end(5)", x.end(5), 5);
        says(readme, "x.find()", x.find(), 0);
    }

    /** The answer is as due, and a line of README.md shows the call with that answer behind it. */
    private static void says(String readme, String call, int got, int want) {
        probe.due(call, got, want);
        boolean isShown = false;
        for (String line : readme.split("\n")) {
            isShown = isShown || line.contains("= " + call + ";") && line.contains("// " + want + ": ");
        }
        probe.due("README.md shows " + call + " with " + want, isShown, true);
    }

    private static void refusedExample() {
        MarkBlocks x = new MarkBlocks();
        x.feed(0x5b615d3a, 0x620a0a3e, 0x3e3e3e3e, 0x3e3e3e3e, 0x3e3e3e3e);
        probe.due("end(20)", x.end(20), 20);
        probe.due("read() of thirteen quotes behind a definition", Probe.read(x), "throws");
        probe.due("fault()", x.fault(), 2);
        probe.due("block(0, 0)", x.block(0, 0), MarkBlocks.NONE);
        probe.due("definitions()", x.definitions(), 0);
        probe.due("end(21)", x.end(21), MarkBlocks.NONE);
    }

    private static void namesEveryCall(String readme) {
        for (Method m : MarkBlocks.class.getDeclaredMethods()) {
            if (Modifier.isPublic(m.getModifiers())) {
                probe.due("README.md names " + m.getName(), readme.contains("| `" + m.getName() + "("), true);
            }
        }
    }

    private static void namesEveryTest(String readme) throws IOException {
        try (DirectoryStream<Path> tests = Files.newDirectoryStream(Path.of("src/test/java"), "*Test.java")) {
            for (Path test : tests) {
                String name = test.getFileName().toString().replace(".java", "");
                probe.due("README.md names " + name, readme.contains("`" + name + "`"), true);
            }
        }
    }
}
