/** Promises 1 to 4 and 13: a new object, feed, end, wipe, about. */
public final class TapeTest {
    private static final Probe probe = new Probe();

    public static void main(String[] args) {
        newObject();
        feedAndEnd();
        wrongEnds();
        fullTape();
        wipe();
        about();
        probe.finish();
    }

    private static void newObject() {
        MarkBlocks x = new MarkBlocks();
        probe.due("about(0) of a new object", x.about(0), 0);
        probe.due("about(1) of a new object", x.about(1), 0);
        probe.due("about(2) of a new object", x.about(2), 0);
        probe.due("block(0, 0) of a new object", x.block(0, 0), MarkBlocks.NONE);
        probe.due("letter of a new object", x.letter(0, false, 0), MarkBlocks.NONE);
        probe.due("definitions() of a new object", x.definitions(), 0);
        probe.due("definition(0, 0) of a new object", x.definition(0, 0), MarkBlocks.NONE);
        probe.due("defined(0, 0, 0) of a new object", x.defined(0, 0, 0), MarkBlocks.NONE);
        probe.due("find() of a new object", x.find(), MarkBlocks.NONE);
        probe.due("fault() of a new object", x.fault(), MarkBlocks.NONE);
        probe.due("read() of a new object", Probe.read(x), 1);
    }

    private static void feedAndEnd() {
        MarkBlocks x = new MarkBlocks();
        x.feed(0x61626364, 0x65666768, 0x696a6b6c, 0x6d6e6f70, 0x71727374);
        probe.due("end(20)", x.end(20), 20);
        x.read();
        probe.due("twenty characters", Probe.textOf(x, 1, false), "abcdefghijklmnopqrst");

        x = new MarkBlocks();
        x.feed(0x61626364, 0, 0, 0, 0);
        x.feed(0xfffefd80, 0x7a000000, 0, 0, 0);
        probe.due("end(5): what was fed last counts", x.end(5), 5);
        probe.due("end(2): zeros behind an end that answers", x.end(2), 7);
        x.read();
        probe.due("high bytes and zeros", Probe.textOf(x, 1, false), "\u00ff\u00fe\u00fd\u0080z\0\0");

        x = new MarkBlocks();
        probe.due("end(3) without feed", x.end(3), 3);
        x.read();
        probe.due("zeros at first", Probe.textOf(x, 1, false), "\0\0\0");

        x = new MarkBlocks();
        x.feed(0x61626364, 0, 0, 0, 0);
        probe.due("end(0)", x.end(0), 0);
        probe.due("end(1) behind end(0)", x.end(1), 1);
        x.read();
        probe.due("end(0) leaves zeros", Probe.textOf(x, 1, false), "\0");
    }

    private static void wrongEnds() {
        MarkBlocks x = new MarkBlocks();
        x.feed(0x61626364, 0, 0, 0, 0);
        probe.due("end(-1)", x.end(-1), MarkBlocks.NONE);
        probe.due("end(21)", x.end(21), MarkBlocks.NONE);
        probe.due("end(MIN)", x.end(Integer.MIN_VALUE), MarkBlocks.NONE);
        probe.due("end(MAX)", x.end(Integer.MAX_VALUE), MarkBlocks.NONE);
        probe.due("nothing came", x.about(0), 0);
        probe.due("end(4): ready characters stay behind NONE", x.end(4), 4);
        x.read();
        probe.due("the ready characters", Probe.textOf(x, 1, false), "abcd");
    }

    private static void fullTape() {
        MarkBlocks x = new MarkBlocks();
        for (int i = 0; i < 149; i++) {
            x.end(20);
        }
        x.end(1);
        x.feed(0x61616161, 0x61616161, 0x61616161, 0x61616161, 0x61616161);
        probe.due("end(20) at 2981", x.end(20), MarkBlocks.NONE);
        probe.due("about(0) at 2981", x.about(0), 2981);
        probe.due("end(19) at 2981", x.end(19), 3000);
        probe.due("end(1) at 3000", x.end(1), MarkBlocks.NONE);
        probe.due("end(0) at 3000", x.end(0), 3000);
        x.read();
        probe.due("the last character", x.letter(1, false, 2999), 97);
        probe.due("none behind it", x.letter(1, false, 3000), MarkBlocks.NONE);
    }

    private static void wipe() {
        MarkBlocks x = new MarkBlocks();
        Probe.put(x, "[a]: b\n\nc");
        x.read();
        x.feed(0x7a7a7a7a, 0, 0, 0, 0);
        x.wipe();
        probe.due("about(0) behind wipe()", x.about(0), 0);
        probe.due("blocks stay behind wipe()", x.about(1), 2);
        probe.due("lines stay behind wipe()", x.about(2), 3);
        probe.due("definitions stay behind wipe()", x.definitions(), 1);
        probe.due("what is ready stays behind wipe()", x.end(4), 4);
        x.read();
        probe.due("text behind wipe()", Probe.textOf(x, 1, false), "zzzz");
        probe.due("definitions of the new text", x.definitions(), 0);
    }

    private static void about() {
        lines("", 0);
        lines("a", 1);
        lines("a\n", 1);
        lines("\n", 1);
        lines("\n\n", 2);
        lines("\r", 1);
        lines("\r\n", 1);
        lines("\n\r", 2);
        lines("\r\r\n\n", 3);
        lines("a\rb\nc\r\nd", 4);
        lines("a\r\n ", 2);
        MarkBlocks x = Probe.reading("# a\n# b");
        probe.due("about(0)", x.about(0), 7);
        probe.due("about(1)", x.about(1), 3);
        probe.due("about(2)", x.about(2), 2);
        probe.due("about(3)", x.about(3), MarkBlocks.NONE);
        probe.due("about(-1)", x.about(-1), MarkBlocks.NONE);
        probe.due("about(MIN)", x.about(Integer.MIN_VALUE), MarkBlocks.NONE);
        Probe.put(x, "\n# c");
        probe.due("about(2) before the next read()", x.about(2), 2);
        x.read();
        probe.due("about(2) behind it", x.about(2), 3);
    }

    private static void lines(String text, int want) {
        probe.due("about(2) of " + Probe.quoted(text), Probe.reading(text).about(2), want);
    }
}
