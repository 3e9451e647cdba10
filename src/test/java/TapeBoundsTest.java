/** The boundaries of the tape, its lines and promises 1 to 4 and 13, a test for each sentence that names one. */
public final class TapeBoundsTest {
    private static final Probe probe = new Probe();
    private static final int NONE = MarkBlocks.NONE;

    public static void main(String[] args) {
        calls();
        characters();
        lengthOfTape();
        white();
        lineEnds();
        behindLastEnd();
        tabs();
        blank();
        numbers();
        newObject();
        feedOrder();
        feedZeros();
        feedStaysBehindRefusal();
        endRange();
        endFull();
        wipe();
        about();
        probe.finish();
    }

    private static String sign(int c) {
        return String.valueOf((char) c);
    }

    /** An object whose tape has so many letters a. */
    private static MarkBlocks holding(int length) {
        MarkBlocks x = new MarkBlocks();
        Probe.put(x, "a".repeat(length));
        return x;
    }

    private static void calls() {
        probe.sentence("An object is used for at most 512 calls after it has been made");
        MarkBlocks x = new MarkBlocks();
        Probe.put(x, "- a\n".repeat(750));
        for (int call = 301; call <= 510; call++) {
            x.read();
        }
        probe.due("call 511, read()", x.read(), 1502);
        probe.due("call 512, block(1501, 7)", x.block(1501, 7), 749);
    }

    private static void characters() {
        probe.sentence("THE TAPE has characters 0 .. 255");
        for (int c = 0; c <= 255; c++) {
            if (c != 9 && c != 10 && c != 13) {
                MarkBlocks x = Probe.reading("a" + sign(c) + "b");
                probe.due("letter " + c, x.letter(1, false, 1), c);
            }
        }
    }

    private static void lengthOfTape() {
        probe.sentence("at most 3000");
        MarkBlocks x = holding(2999);
        probe.due("end(1) at 2999", x.end(1), 3000);
        probe.due("end(1) at 3000", x.end(1), NONE);
        probe.due("about(0)", x.about(0), 3000);
        probe.due("read() of 3000 characters", Probe.read(x), 2);
        probe.due("letters of 3000 characters", x.block(1, 4), 3000);
    }

    private static void white() {
        probe.sentence("WHITE: 9, 10, 13, 32.");
        for (int c = 0; c <= 255; c++) {
            boolean isWhite = c == 9 || c == 10 || c == 13 || c == 32;
            MarkBlocks x = Probe.reading("[k]: l\n[m n]: o");
            probe.due("find() of k between two of " + c, Probe.find(x, sign(c) + "k" + sign(c)), isWhite ? 0 : NONE);
            probe.due("find() of m, " + c + ", n", Probe.find(x, "m" + sign(c) + "n"), isWhite ? 1 : NONE);
        }
    }

    private static void lines(String text, int want) {
        probe.due("about(2) of " + Probe.quoted(text), Probe.reading(text).about(2), want);
    }

    private static void lineEnds() {
        probe.sentence("LINES end with 10, 13, or 13 and 10");
        for (int c = 0; c <= 255; c++) {
            lines("a" + sign(c) + "b", c == 10 || c == 13 ? 2 : 1);
        }
        lines("a\r\nb", 2);
        lines("a\n\rb", 3);
        lines("a\r\rb", 3);
        lines("a\r\r\nb", 3);
        lines("a\r\n\nb", 3);
        lines("a\r\n\r\nb", 3);
        lines("a\r\n\rb", 3);
        probe.outline("a\r\nb", "(document 0-1 (paragraph 0-1 'a/b'))");
        probe.outline("a\n\rb", "(document 0-2 (paragraph 0-0 'a') (paragraph 2-2 'b'))");
    }

    private static void behindLastEnd() {
        probe.sentence("what stands behind the last end is a line if it is something");
        lines("", 0);
        lines(" ", 1);
        lines("\0", 1);
        lines("\n", 1);
        lines("\r\n", 1);
        lines("\n\0", 2);
        lines("a\n", 1);
        lines("a\r", 1);
        lines("a\r\n", 1);
        lines("a\n ", 2);
        lines("a\r\t", 2);
        lines("a\r\n ", 2);
        lines("\n".repeat(2999), 2999);
        lines("\n".repeat(3000), 3000);
        lines("\n".repeat(2999) + "a", 3000);
    }

    private static void tabs() {
        probe.sentence("each 9 becomes one to four spaces (32), so that what follows is a multiple of 4 characters"
            + " behind the line's beginning");
        int[] spaces = {4, 3, 2, 1, 4, 3, 2, 1, 4};
        for (int ahead = 0; ahead < spaces.length; ahead++) {
            String letters = "x".repeat(ahead);
            MarkBlocks x = Probe.reading("~~~\n" + letters + "\ty");
            probe.due(ahead + " letters and 9", Probe.textOf(x, 1, false), letters + " ".repeat(spaces[ahead]) + "y\n");
        }
        probe.outline("~~~\n\t\t", "(document 0-1 (code 0-1 ~ '        /'))");
        probe.outline("~~~\n   \t \ta", "(document 0-1 (code 0-1 ~ '        a/'))");
        probe.outline(">\t\ta", "(document 0-0 (quote 0-0 (code 0-0 '  a/')))");
        probe.outline("> -\ta", "(document 0-0 (quote 0-0 (list 0-0 - (item 0-0 w2 (paragraph 0-0 'a')))))");
    }

    private static void blank() {
        probe.sentence("BLANK is what has nothing but spaces.");
        probe.outline("a\n\nb", "(document 0-2 (paragraph 0-0 'a') (paragraph 2-2 'b'))");
        probe.outline("a\n" + " ".repeat(90) + "\nb", "(document 0-2 (paragraph 0-0 'a') (paragraph 2-2 'b'))");
        String marks = "#>-=\n\r";
        for (int c = 0; c <= 255; c++) {
            if (marks.indexOf(c) < 0) {
                MarkBlocks x = Probe.reading("a\n" + sign(c) + "\nb");
                probe.due("blocks with a line of " + c, x.about(1), c == 9 || c == 32 ? 3 : 2);
            }
        }
    }

    private static void numbers() {
        probe.sentence("Lines, blocks, definitions are numbered from 0 on.");
        MarkBlocks x = Probe.reading("[a]: b\n# c");
        probe.due("block(0, 0)", x.block(0, 0), 0);
        probe.due("block(1, 0)", x.block(1, 0), 5);
        probe.due("block(1, 6)", x.block(1, 6), 1);
        probe.due("block(-1, 0)", x.block(-1, 0), NONE);
        probe.due("definition(0, 0)", x.definition(0, 0), 1);
        probe.due("definition(-1, 0)", x.definition(-1, 0), NONE);
        probe.due("find() of a", Probe.find(x, "a"), 0);
        probe.due("FIRST in line 0", Probe.reading("# c").block(1, 6), 0);
    }

    private static void newObject() {
        probe.sentence("Nothing on the tape, no document, no definitions.");
        MarkBlocks x = new MarkBlocks();
        probe.due("about(0)", x.about(0), 0);
        probe.due("about(1)", x.about(1), 0);
        probe.due("about(2)", x.about(2), 0);
        probe.due("block(0, 0)", x.block(0, 0), NONE);
        probe.due("block(0, 7)", x.block(0, 7), NONE);
        probe.due("letter(0, false, 0)", x.letter(0, false, 0), NONE);
        probe.due("definitions()", x.definitions(), 0);
        probe.due("definition(0, 0)", x.definition(0, 0), NONE);
        probe.due("defined(0, 0, 0)", x.defined(0, 0, 0), NONE);
        probe.due("find()", x.find(), NONE);
        probe.due("fault()", x.fault(), NONE);
        probe.due("end(0)", x.end(0), 0);
    }

    private static void feedOrder() {
        probe.sentence("Puts twenty characters ready, those of a first, the highest byte of each first.");
        MarkBlocks x = new MarkBlocks();
        x.feed(0x80818283, 0x84858687, 0x88898a8b, 0x8c8d8e8f, 0x90919293);
        x.end(20);
        x.read();
        for (int i = 0; i < 20; i++) {
            probe.due("letter " + i, x.letter(1, false, i), 128 + i);
        }
        x = new MarkBlocks();
        x.feed(Integer.MIN_VALUE, Integer.MAX_VALUE, -1, 0, 1);
        x.end(20);
        x.read();
        int[] want = {128, 0, 0, 0, 127, 255, 255, 255, 255, 255, 255, 255, 0, 0, 0, 0, 0, 0, 0, 1};
        for (int i = 0; i < want.length; i++) {
            probe.due("letter " + i + " of the outermost numbers", x.letter(1, false, i), want[i]);
        }
        x = new MarkBlocks();
        x.feed(-1, -1, -1, -1, -1);
        x.feed(0x61000000, 0, 0, 0, 0);
        x.end(2);
        x.read();
        probe.due("the latest feed() counts", Probe.textOf(x, 1, false), "a\0");
    }

    private static void feedZeros() {
        probe.sentence("(They are 0 at first, and behind each end() that answers a number.)");
        MarkBlocks x = new MarkBlocks();
        x.end(20);
        x.read();
        probe.due("at first", Probe.textOf(x, 1, false), "\0".repeat(20));
        int[] taken = {0, 1, 19, 20};
        for (int n : taken) {
            x = new MarkBlocks();
            x.feed(0x61616161, 0x61616161, 0x61616161, 0x61616161, 0x61616161);
            x.end(n);
            x.end(20);
            x.read();
            probe.due("behind end(" + n + ")", Probe.textOf(x, 1, false), "a".repeat(n) + "\0".repeat(20));
        }
    }

    private static void feedStaysBehindRefusal() {
        probe.sentence("behind each end() that answers a number");
        int[] refused = {Integer.MIN_VALUE, -1, 21, Integer.MAX_VALUE};
        for (int n : refused) {
            MarkBlocks x = new MarkBlocks();
            x.feed(0x62636465, 0, 0, 0, 0);
            x.end(n);
            x.end(4);
            x.read();
            probe.due("behind end(" + n + ")", Probe.textOf(x, 1, false), "bcde");
        }
        MarkBlocks x = holding(3000);
        x.feed(0x62636465, 0, 0, 0, 0);
        x.end(1);
        x.wipe();
        x.end(4);
        x.read();
        probe.due("behind end(1) of a full tape", Probe.textOf(x, 1, false), "bcde");
    }

    private static void endRange() {
        probe.sentence("NONE, and nothing comes, if n is not 0 .. 20");
        int[] taken = {0, 1, 19, 20};
        for (int n : taken) {
            MarkBlocks x = holding(3);
            probe.due("end(" + n + ")", x.end(n), 3 + n);
            probe.due("about(0) behind it", x.about(0), 3 + n);
        }
        int[] refused = {Integer.MIN_VALUE, -20, -1, 21, 22, Integer.MAX_VALUE};
        for (int n : refused) {
            MarkBlocks x = holding(3);
            probe.due("end(" + n + ")", x.end(n), NONE);
            probe.due("about(0) behind it", x.about(0), 3);
        }
    }

    private static void endFull() {
        probe.sentence("or it would have more than 3000");
        for (int n = 1; n <= 20; n++) {
            MarkBlocks x = holding(3000 - n);
            probe.due("end(" + n + ") at " + (3000 - n), x.end(n), 3000);
            x = holding(3001 - n);
            probe.due("end(" + n + ") at " + (3001 - n), x.end(n), NONE);
            probe.due("about(0) behind it", x.about(0), 3001 - n);
        }
        probe.due("end(0) at 3000", holding(3000).end(0), 3000);
    }

    private static void wipe() {
        probe.sentence("The tape is empty.");
        MarkBlocks x = new MarkBlocks();
        x.wipe();
        probe.due("about(0) of an empty tape", x.about(0), 0);
        x = holding(3000);
        x.wipe();
        probe.due("about(0) of a full tape", x.about(0), 0);
        probe.due("end(20) behind it", x.end(20), 20);
        Probe.put(x, "b".repeat(2980));
        probe.due("about(0) of a tape that is full again", x.about(0), 3000);
        probe.due("end(1) of it", x.end(1), NONE);
    }

    private static void about() {
        probe.sentence("Characters of the tape (what = 0), blocks (1; 0 without a document), lines of the text that"
            + " was read (2; 0 without). NONE for another what.");
        MarkBlocks x = Probe.reading("# a\n# b");
        int[] whats = {Integer.MIN_VALUE, -1, 0, 1, 2, 3, 4, Integer.MAX_VALUE};
        int[] want = {NONE, NONE, 7, 3, 2, NONE, NONE, NONE};
        for (int i = 0; i < whats.length; i++) {
            probe.due("about(" + whats[i] + ")", x.about(whats[i]), want[i]);
        }
        x.wipe();
        probe.due("about(0) behind wipe()", x.about(0), 0);
        probe.due("about(1) behind wipe()", x.about(1), 3);
        probe.due("about(2) behind wipe()", x.about(2), 2);
        x.read();
        probe.due("about(1) of nothing that was read", x.about(1), 1);
        probe.due("about(2) of nothing that was read", x.about(2), 0);
        Probe.put(x, "\n" + ">".repeat(13));
        Probe.read(x);
        probe.due("about(0) of what is too deep", x.about(0), 14);
        probe.due("about(1) of what is too deep", x.about(1), 0);
        probe.due("about(2) of what is too deep", x.about(2), 0);
    }
}
