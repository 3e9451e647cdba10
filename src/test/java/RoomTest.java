import java.util.Random;

/** The largest texts, and many texts of no sense: nothing but the document's exception is ever thrown. */
public final class RoomTest {
    private static final Probe probe = new Probe();

    private static final String[] PIECES = {
        "a", "B ", "- ", "-", "* ", "+ ", "1. ", "2) ", "123456789. ", "\t", " ", "    ", "\n", "\n", "\n\n", "\r",
        "\r\n", "> ", ">", "# ", "###### ", "#", "```", "~~~~", "`", "---", "* * *", "===", "=", "\\", "[a]: ", "[b]:",
        "[c\nd]: e\n", "<x y>", " \"t\"", "'u'", "(v)", "[", "]", "\"", "<", "(", ")", "&amp;", "&#65;", "&#xd800;",
        "&", ";", "\0", "\u007f", "\u00ff"};

    public static void main(String[] args) {
        manyBlocks();
        manyTabs();
        manyDefinitions();
        senselessTexts();
        probe.finish();
    }

    private static void manyBlocks() {
        MarkBlocks x = Probe.reading("-\n+\n".repeat(750));
        probe.due("blocks of 1500 lists", x.about(1), 3001);
        probe.due("the last list", x.block(2999, 9), (int) '+');
        probe.due("the last item's list", x.block(3000, 1), 2999);
        x = Probe.reading("- + - + - +\n+ - + - + -\n".repeat(125));
        probe.due("blocks of 250 deep lines", x.about(1), 3001);
        probe.due("the deepest item", x.block(3000, 1), 2999);
        x = Probe.reading("\n".repeat(3000));
        probe.due("lines", x.about(2), 3000);
        x = Probe.reading("#\n".repeat(1500));
        probe.due("headings", x.about(1), 1501);
        probe.due("the last one's line", x.block(1500, 7), 1499);
    }

    private static void manyTabs() {
        MarkBlocks x = Probe.reading("```\n" + "\t".repeat(2996));
        probe.due("letters of tabs", x.block(1, 4), 4 * 2996 + 1);
        probe.due("the last letter", x.letter(1, false, 4 * 2996), 10);
        probe.due("the one ahead of it", x.letter(1, false, 4 * 2996 - 1), 32);
        x = Probe.reading("\t".repeat(2999) + "a");
        probe.due("letters of code", x.block(1, 4), 4 * 2998 + 2);
        x = Probe.reading("[a]: b '" + "\t".repeat(2991) + "'");
        probe.due("letters of a title", x.definition(0, 2), 4 * 2991);
        probe.due("find() behind it", Probe.find(x, "b".repeat(3000)), MarkBlocks.NONE);
        probe.due("find() of it", Probe.find(x, "A"), 0);
    }

    private static void manyDefinitions() {
        StringBuilder text = new StringBuilder();
        for (int i = 0; i < 300; i++) {
            text.append("[").append(1000 + i).append("]:x\n");
        }
        MarkBlocks x = Probe.reading(text.toString());
        probe.due("definitions()", x.definitions(), 300);
        probe.due("find() of the last", Probe.find(x, "1299"), 299);
        for (int i = 0; i < 100; i++) {
            x.read();
            x.find();
        }
        probe.due("definitions() of the label as a text", x.definitions(), 0);
    }

    private static void senselessTexts() {
        Random random = new Random(1);
        MarkBlocks x = new MarkBlocks();
        for (int turn = 0; turn < 4000; turn++) {
            StringBuilder text = new StringBuilder();
            int pieces = random.nextInt(turn % 50 == 0 ? 1500 : 40);
            for (int i = 0; i < pieces; i++) {
                text.append(PIECES[random.nextInt(PIECES.length)]);
            }
            text.setLength(Math.min(text.length(), 3000));
            x.wipe();
            Probe.put(x, text.toString());
            Probe.read(x);
            lookAtOrder(x, text.toString());
            if (pieces < 40) {
                lookAsNew(x, text.toString());
            }
            x.find();
            x.block(random.nextInt(), random.nextInt());
            x.letter(random.nextInt(), random.nextBoolean(), random.nextInt());
            x.definition(random.nextInt(), random.nextInt());
            x.defined(random.nextInt(), random.nextInt(), random.nextInt());
        }
    }

    /** An object that has read many texts tells of the latest what a new one does. */
    private static void lookAsNew(MarkBlocks used, String text) {
        MarkBlocks fresh = new MarkBlocks();
        Probe.put(fresh, text);
        Probe.read(fresh);
        probe.due("fault() of " + Probe.quoted(text), used.fault(), fresh.fault());
        probe.due("about(1) of " + Probe.quoted(text), used.about(1), fresh.about(1));
        probe.due("about(2) of " + Probe.quoted(text), used.about(2), fresh.about(2));
        probe.due("definitions of " + Probe.quoted(text), Probe.definitionsOf(used), Probe.definitionsOf(fresh));
        if (fresh.about(1) > 0) {
            probe.due("outline of " + Probe.quoted(text), Probe.outlineOf(used), Probe.outlineOf(fresh));
        }
    }

    /** What holds each block is ahead of it and can hold it, and spans its lines. */
    private static void lookAtOrder(MarkBlocks x, String text) {
        boolean isSo = x.about(1) == 0 || x.block(0, 0) == 0;
        for (int k = 1; k < x.about(1); k++) {
            int holder = x.block(k, 1);
            isSo = isSo && holder >= 0 && holder < k && x.block(holder, 0) <= 3
                && (x.block(holder, 0) == 2) == (x.block(k, 0) == 3)
                && x.block(k, 6) >= x.block(holder, 6) && x.block(k, 7) <= x.block(holder, 7)
                && x.block(k, 6) <= x.block(k, 7) && x.block(k, 7) < x.about(2)
                && (x.block(k, 0) != 4 || x.block(k, 4) > 0);
        }
        probe.due("order in " + Probe.quoted(text), isSo, true);
    }
}
