/** The boundaries that promises 5 to 12 name: read, fault, block, letter, definitions, definition, defined, find. */
public final class AnswersBoundsTest {
    private static final Probe probe = new Probe();
    private static final int NONE = MarkBlocks.NONE;
    private static final int[] FAR = {Integer.MIN_VALUE, -2, -1, 3000, 1000000, Integer.MAX_VALUE};

    public static void main(String[] args) {
        readCounts();
        readStays();
        readTooDeep();
        readBehindTooDeep();
        readAgain();
        readWithNothingOpen();
        faultAheadOfAny();
        faultOfLatest();
        blockNumbers();
        blockWhats();
        blockOrder();
        blockHolder();
        blockNumber();
        blockLoose();
        blockText();
        blockInfo();
        blockWidth();
        blockSign();
        letterNumbers();
        letterOfBlocksWithoutText();
        letterOfInfo();
        definitionsCount();
        definitionNumbers();
        definitionWhats();
        definitionWithoutTitle();
        definedNumbers();
        findNumbers();
        findNothing();
        findLongest();
        findManyTimes();
        findWithoutDocument();
        probe.finish();
    }

    private static MarkBlocks tooDeep() {
        MarkBlocks x = Probe.reading("[a]: b\n\nc");
        Probe.put(x, "\n" + ">".repeat(13));
        Probe.read(x);
        return x;
    }

    /** Answer what of the blocks in their order. */
    private static void whatOfBlocks(MarkBlocks x, int what, int... want) {
        probe.due("about(1)", x.about(1), want.length);
        for (int k = 0; k < want.length; k++) {
            probe.due("block(" + k + ", " + what + ")", x.block(k, what), want[k]);
        }
        probe.due("block(" + want.length + ", " + what + ")", x.block(want.length, what), NONE);
    }

    private static void readCounts() {
        probe.sentence("The tape is read: how many blocks, with the document.");
        probe.due("read() of nothing", Probe.read(new MarkBlocks()), 1);
        String[] texts = {"\n", " ", "[a]: b", "a", ">", "-", "a\n\nb", "-\n+\n".repeat(750)};
        int[] counts = {1, 1, 1, 2, 2, 3, 3, 3001};
        for (int i = 0; i < texts.length; i++) {
            MarkBlocks x = new MarkBlocks();
            Probe.put(x, texts[i]);
            probe.due("read() of " + Probe.quoted(texts[i]), Probe.read(x), counts[i]);
            probe.due("about(1) of " + Probe.quoted(texts[i]), x.about(1), counts[i]);
        }
    }

    private static void readStays() {
        probe.sentence("The tape is read (it stays)");
        MarkBlocks x = new MarkBlocks();
        Probe.put(x, "# a\n# b");
        x.read();
        probe.due("about(0) behind read()", x.about(0), 7);
        Probe.put(x, "c");
        x.read();
        probe.due("text of the tape that went on", Probe.textOf(x, 2, false), "bc");
        probe.due("about(0) behind a read() that throws", tooDeep().about(0), 23);
    }

    private static void readTooDeep() {
        probe.sentence("IllegalArgumentException: TOO DEEP (there is no document and no definition then).");
        MarkBlocks x = new MarkBlocks();
        Probe.put(x, ">".repeat(12));
        probe.due("read() of 12", Probe.read(x), 13);
        Probe.put(x, ">");
        probe.due("read() of 13", Probe.read(x), "throws");
        probe.due("read() of 13 again", Probe.read(x), "throws");
    }

    private static void readBehindTooDeep() {
        probe.sentence("(there is no document and no definition then)");
        MarkBlocks x = tooDeep();
        for (int what = 0; what < 10; what++) {
            probe.due("block(0, " + what + ")", x.block(0, what), NONE);
            probe.due("block(1, " + what + ")", x.block(1, what), NONE);
        }
        probe.due("letter(1, false, 0)", x.letter(1, false, 0), NONE);
        probe.due("letter(1, true, 0)", x.letter(1, true, 0), NONE);
        probe.due("definitions()", x.definitions(), 0);
        for (int what = 0; what < 3; what++) {
            probe.due("definition(0, " + what + ")", x.definition(0, what), NONE);
            probe.due("defined(0, " + what + ", 0)", x.defined(0, what, 0), NONE);
        }
        probe.due("about(1)", x.about(1), 0);
        probe.due("about(2)", x.about(2), 0);
        probe.due("find() of a", Probe.find(x, "a"), NONE);
    }

    private static void readAgain() {
        probe.sentence("The tape is read");
        MarkBlocks x = tooDeep();
        x.wipe();
        Probe.put(x, "[c]: d\n\n~~~ e\nf");
        probe.due("read() behind one that throws", Probe.read(x), 2);
        probe.due("its outline", Probe.outlineOf(x), "(document 0-3 (code 2-3 ~ info 'e' 'f/'))");
        probe.due("its definitions", Probe.definitionsOf(x), "'c'='d'");
        x.wipe();
        probe.due("read() of nothing", Probe.read(x), 1);
        probe.due("definitions() of nothing", x.definitions(), 0);
        probe.due("block(1, 0) of nothing", x.block(1, 0), NONE);
    }

    private static void readWithNothingOpen() {
        probe.sentence("TOO DEEP (there is no document and no definition then)");
        String[] deep = {">".repeat(13), "1) ".repeat(7), "a\n" + ">".repeat(12) + "a\n" + ">".repeat(12) + "- b"};
        String[] texts = {"> a", ">> a\n> b", "- a", "   a", "\n\n> a", "   1) a", "a", ""};
        for (String ahead : deep) {
            for (String text : texts) {
                MarkBlocks x = new MarkBlocks();
                Probe.put(x, ahead);
                probe.due("read() of " + Probe.quoted(ahead), Probe.read(x), "throws");
                x.wipe();
                Probe.put(x, text);
                Probe.read(x);
                probe.due("outline of " + Probe.quoted(text) + " behind " + Probe.quoted(ahead),
                    Probe.outlineOf(x), Probe.outlineOf(Probe.reading(text)));
            }
        }
    }

    private static void faultAheadOfAny() {
        probe.sentence("NONE without one, and ahead of any");
        MarkBlocks x = new MarkBlocks();
        probe.due("fault() of a new object", x.fault(), NONE);
        Probe.put(x, ">".repeat(13));
        probe.due("fault() ahead of any read()", x.fault(), NONE);
        Probe.read(x);
        probe.due("fault() behind read()", x.fault(), 0);
    }

    private static void faultOfLatest() {
        probe.sentence("Of the latest read(): the line that is TOO DEEP");
        MarkBlocks x = tooDeep();
        probe.due("fault()", x.fault(), 3);
        x.wipe();
        probe.due("fault() behind wipe()", x.fault(), 3);
        x.end(20);
        x.find();
        probe.due("fault() behind end() and find()", x.fault(), 3);
        x.read();
        probe.due("fault() behind a read() without one", x.fault(), NONE);
        Probe.put(x, "\n\n\n\n" + ">".repeat(13));
        probe.due("fault() ahead of the next read()", x.fault(), NONE);
        Probe.read(x);
        probe.due("fault() behind it", x.fault(), 4);
    }

    private static void blockNumbers() {
        probe.sentence("Of block k, the document 0; NONE if there is none such");
        MarkBlocks x = Probe.reading("a\n\nb");
        for (int what = 0; what < 10; what++) {
            probe.due("block(2, " + what + ") is there", x.block(2, what) != NONE, true);
            probe.due("block(3, " + what + ")", x.block(3, what), NONE);
            for (int k : FAR) {
                probe.due("block(" + k + ", " + what + ")", x.block(k, what), NONE);
            }
        }
        probe.due("block(0, 0)", x.block(0, 0), 0);
        x.wipe();
        x.read();
        probe.due("block(1, 0) of what a read() ahead of it had", x.block(1, 0), NONE);
    }

    private static void blockWhats() {
        probe.sentence("or for another what");
        MarkBlocks x = Probe.reading("- # a\n\n~~~ b\nc");
        for (int k = 0; k < x.about(1); k++) {
            probe.due("block(" + k + ", 0) is there", x.block(k, 0) != NONE, true);
            probe.due("block(" + k + ", 9) is there", x.block(k, 9) != NONE, true);
            probe.due("block(" + k + ", 10)", x.block(k, 10), NONE);
            for (int what : FAR) {
                probe.due("block(" + k + ", " + what + ")", x.block(k, what), NONE);
            }
        }
    }

    private static void blockOrder() {
        probe.sentence("what holds ahead of what it holds, in the order of the text, the document 0: KIND (what = 0)");
        whatOfBlocks(Probe.reading("> - a\n>   # b\n> - ***\n\n~~~"), 0, 0, 1, 2, 3, 4, 5, 3, 6, 7);
        whatOfBlocks(Probe.reading("[a]: b\n\nc\n\n[d]: e\n***"), 0, 0, 4, 6);
    }

    private static void blockHolder() {
        probe.sentence("what holds it (1; NONE of the document)");
        whatOfBlocks(Probe.reading("> - a\n>   # b\n> - ***\n\n~~~"), 1, NONE, 0, 1, 2, 3, 3, 2, 6, 0);
        whatOfBlocks(Probe.reading(""), 1, NONE);
    }

    private static void blockNumber() {
        probe.sentence("a HEADING's level, a LIST's number (2; 0 of others)");
        whatOfBlocks(Probe.reading("> 7. a\n\n###### b\nc\n-\n***\n~~~ d"), 2, 0, 0, 7, 0, 0, 6, 2, 0, 0);
        whatOfBlocks(Probe.reading("- a"), 2, 0, 0, 0, 0);
        whatOfBlocks(Probe.reading("999999999) a"), 2, 0, 999999999, 0, 0);
    }

    private static void blockLoose() {
        probe.sentence("whether a LIST is LOOSE (3; 1, else 0)");
        whatOfBlocks(Probe.reading("> - a\n>\n>   b\n\n- c\n- d\n\n***\n\n# e"), 3, 0, 0, 1, 0, 0, 0, 0, 0, 0, 0, 0, 0, 0);
    }

    private static void blockText() {
        probe.sentence("how many characters its text has (4; 0 without one)");
        whatOfBlocks(Probe.reading("> - abc\n\n# de\n#\n***\n~~~\n\n~~~\n~~~ f"), 4, 0, 0, 0, 0, 3, 2, 0, 0, 1, 0);
    }

    private static void blockInfo() {
        probe.sentence("CODE's INFO (5; 0 of others)");
        whatOfBlocks(Probe.reading("> - abc\n\n# de\n***\n~~~ f g\nh\n~~~\n~~~\n~~~\n    i"), 5, 0, 0, 0, 0, 0, 0, 0, 3, 0, 0);
    }

    private static void blockWidth() {
        probe.sentence("an ITEM's WIDTH (8; 0 of others)");
        whatOfBlocks(Probe.reading("> - abc\n\n   123456789.    d\n\n# e"), 8, 0, 0, 0, 2, 0, 0, 17, 0, 0);
    }

    private static void blockSign() {
        probe.sentence("the sign of a LIST's kind, or of a fence (9; 0 of others)");
        whatOfBlocks(Probe.reading("* a\n+ b\n- c\n1. d\n1) e"), 9,
            0, '*', 0, 0, '+', 0, 0, '-', 0, 0, '.', 0, 0, ')', 0, 0);
        whatOfBlocks(Probe.reading("> a\n\n~~~\n~~~\n```\n```\n    b\n# c\n***"), 9, 0, 0, 0, '~', '`', 0, 0, 0);
    }

    private static void letterNumbers() {
        probe.sentence("Character i of a block's text; NONE if there is none.");
        MarkBlocks x = Probe.reading("abc\n\n# de\n\n    f");
        String[] texts = {"", "abc", "de", "f\n"};
        for (int k = 0; k < texts.length; k++) {
            int length = texts[k].length();
            probe.due("letter(" + k + ", false, -1)", x.letter(k, false, -1), NONE);
            if (length > 0) {
                probe.due("letter(" + k + ", false, 0)", x.letter(k, false, 0), (int) texts[k].charAt(0));
                probe.due("the last letter of " + k, x.letter(k, false, length - 1), (int) texts[k].charAt(length - 1));
            }
            probe.due("letter(" + k + ", false, " + length + ")", x.letter(k, false, length), NONE);
            for (int i : FAR) {
                probe.due("letter(" + k + ", false, " + i + ")", x.letter(k, false, i), NONE);
            }
        }
        for (int k : FAR) {
            probe.due("letter(" + k + ", false, 0)", x.letter(k, false, 0), NONE);
        }
        probe.due("letter(4, false, 0)", x.letter(4, false, 0), NONE);
    }

    private static void letterOfBlocksWithoutText() {
        probe.sentence("NONE if there is none");
        MarkBlocks x = Probe.reading("> - a\n\n***\n#\n~~~\n~~~");
        int[] without = {0, 1, 2, 3, 5, 6, 7};
        for (int k : without) {
            probe.due("letter(" + k + ", false, 0)", x.letter(k, false, 0), NONE);
            probe.due("letter(" + k + ", true, 0)", x.letter(k, true, 0), NONE);
        }
        probe.due("letter(4, false, 0)", x.letter(4, false, 0), 97);
    }

    private static void letterOfInfo() {
        probe.sentence("or of its INFO; NONE if there is none");
        MarkBlocks x = Probe.reading("~~~ ab\ncde\n~~~\n~~~\nf\n~~~\ng");
        probe.due("letter(1, true, -1)", x.letter(1, true, -1), NONE);
        probe.due("letter(1, true, 0)", x.letter(1, true, 0), 97);
        probe.due("letter(1, true, 1)", x.letter(1, true, 1), 98);
        probe.due("letter(1, true, 2)", x.letter(1, true, 2), NONE);
        probe.due("letter(1, false, 3)", x.letter(1, false, 3), 10);
        probe.due("letter(1, false, 4)", x.letter(1, false, 4), NONE);
        probe.due("letter(2, true, 0)", x.letter(2, true, 0), NONE);
        probe.due("letter(3, true, 0)", x.letter(3, true, 0), NONE);
        for (int n : FAR) {
            probe.due("letter(1, true, " + n + ")", x.letter(1, true, n), NONE);
            probe.due("letter(" + n + ", true, 0)", x.letter(n, true, 0), NONE);
        }
    }

    private static void definitionsCount() {
        probe.sentence("How many definitions count.");
        probe.due("definitions() without one", Probe.reading("a").definitions(), 0);
        probe.due("definitions() of one", Probe.reading("[a]: b").definitions(), 1);
        probe.due("definitions() of one label", Probe.reading("[a]: b\n[A]: c").definitions(), 1);
        probe.due("definitions() of two labels", Probe.reading("[a]: b\n[A]: c\n[d]: e").definitions(), 2);
        MarkBlocks x = Probe.reading("[a]: b");
        Probe.put(x, "\n[c]: d");
        probe.due("definitions() ahead of the next read()", x.definitions(), 1);
    }

    private static void definitionNumbers() {
        probe.sentence("Of definition k, as they were taken; NONE if there is none such");
        MarkBlocks x = Probe.reading("> [bc]: d\n\n[a]: e");
        probe.due("definition(0, 0)", x.definition(0, 0), 2);
        probe.due("definition(1, 0)", x.definition(1, 0), 1);
        for (int what = 0; what < 3; what++) {
            probe.due("definition(2, " + what + ")", x.definition(2, what), NONE);
            for (int k : FAR) {
                probe.due("definition(" + k + ", " + what + ")", x.definition(k, what), NONE);
            }
        }
    }

    private static void definitionWhats() {
        probe.sentence("its label, NORMAL (what = 0), its target (1), its title (2; 0 without one). NONE for another what.");
        MarkBlocks x = Probe.reading("[  A  b ]: <cd&amp;> 'e\\!f&lt;'");
        probe.due("definition(0, 0)", x.definition(0, 0), 3);
        probe.due("definition(0, 1)", x.definition(0, 1), 3);
        probe.due("definition(0, 2)", x.definition(0, 2), 4);
        probe.due("definition(0, 3)", x.definition(0, 3), NONE);
        for (int what : FAR) {
            probe.due("definition(0, " + what + ")", x.definition(0, what), NONE);
        }
    }

    private static void definitionWithoutTitle() {
        probe.sentence("its title (2; 0 without one)");
        MarkBlocks x = Probe.reading("[a]: b 'c'\n[d]: e\n[f]: g ''\n[h]: <>\n[i]: j 'k'");
        int[] targets = {1, 1, 1, 0, 1};
        int[] titles = {1, 0, 0, 0, 1};
        for (int k = 0; k < titles.length; k++) {
            probe.due("definition(" + k + ", 1)", x.definition(k, 1), targets[k]);
            probe.due("definition(" + k + ", 2)", x.definition(k, 2), titles[k]);
        }
    }

    private static void definedNumbers() {
        probe.sentence("Character i of that; NONE if there is none.");
        MarkBlocks x = Probe.reading("[ab]: cde 'f'\n[g]: h");
        String[][] parts = {{"ab", "cde", "f"}, {"g", "h", ""}};
        for (int k = 0; k < parts.length; k++) {
            for (int what = 0; what < 3; what++) {
                String part = parts[k][what];
                for (int i = 0; i < part.length(); i++) {
                    probe.due("defined(" + k + ", " + what + ", " + i + ")", x.defined(k, what, i), (int) part.charAt(i));
                }
                probe.due("defined(" + k + ", " + what + ", " + part.length() + ")", x.defined(k, what, part.length()), NONE);
                for (int far : FAR) {
                    probe.due("defined(" + k + ", " + what + ", " + far + ")", x.defined(k, what, far), NONE);
                }
            }
            probe.due("defined(" + k + ", 3, 0)", x.defined(k, 3, 0), NONE);
        }
        for (int far : FAR) {
            probe.due("defined(" + far + ", 0, 0)", x.defined(far, 0, 0), NONE);
            probe.due("defined(0, " + far + ", 0)", x.defined(0, far, 0), NONE);
        }
        probe.due("defined(2, 0, 0)", x.defined(2, 0, 0), NONE);
    }

    private static void findNumbers() {
        probe.sentence("The definition whose label the tape is, NORMAL");
        MarkBlocks x = Probe.reading("[a]: u\n[b C]: v\n[\\]]: w");
        probe.due("find() of a", Probe.find(x, "a"), 0);
        probe.due("find() of A", Probe.find(x, "A"), 0);
        probe.due("find() of B, c with white", Probe.find(x, "\r\n B\t \nc\t"), 1);
        probe.due("find() of \\]", Probe.find(x, "\\]"), 2);
        probe.due("find() of ]", Probe.find(x, "]"), NONE);
        probe.due("find() of aa", Probe.find(x, "aa"), NONE);
        probe.due("find() of b", Probe.find(x, "b"), NONE);
        probe.due("find() of bc", Probe.find(x, "bc"), NONE);
        probe.due("find() of u", Probe.find(x, "u"), NONE);
        probe.due("find() of a and 0", Probe.find(x, "a\0"), NONE);
        probe.due("definitions() behind find()", Probe.definitionsOf(x), "'a'='u' 'b c'='v' '\\]'='w'");
    }

    private static void findNothing() {
        probe.sentence("NONE if there is none");
        MarkBlocks x = Probe.reading("[a]: <>");
        probe.due("find() of nothing", Probe.find(x, ""), NONE);
        probe.due("find() of white alone", Probe.find(x, " \t\r\n"), NONE);
        probe.due("find() ahead of any read()", Probe.find(new MarkBlocks(), "a"), NONE);
        probe.due("find() without a definition", Probe.find(Probe.reading("a"), "a"), NONE);
    }

    private static void findLongest() {
        probe.sentence("The definition whose label the tape is, NORMAL");
        String longest = "a".repeat(100);
        MarkBlocks x = Probe.reading("[b]: c\n[" + longest + "]: d");
        probe.due("find() of 100 letters", Probe.find(x, longest), 1);
        probe.due("find() of 99 letters", Probe.find(x, longest.substring(1)), NONE);
        probe.due("find() of 101 letters", Probe.find(x, longest + "a"), NONE);
        probe.due("find() of 3000 letters", Probe.find(x, "a".repeat(3000)), NONE);
        probe.due("find() of 3000 characters", Probe.find(x, " ".repeat(1499) + "B" + "\t".repeat(1500)), 0);
    }

    private static void findManyTimes() {
        probe.sentence("The definition whose label the tape is, NORMAL");
        MarkBlocks x = Probe.reading("[a]: b");
        Probe.find(x, "c".repeat(3000));
        for (int call = 0; call < 50; call++) {
            probe.due("find() of 3000 letters, time " + call, x.find(), NONE);
        }
        probe.due("find() of a behind it", Probe.find(x, "a"), 0);
        probe.due("definitions behind it", Probe.definitionsOf(x), "'a'='b'");
    }

    private static void findWithoutDocument() {
        probe.sentence("(there is no document and no definition then)");
        MarkBlocks x = tooDeep();
        probe.due("find() behind what is too deep", Probe.find(x, "a"), NONE);
        x.wipe();
        Probe.put(x, "[a]: b");
        x.read();
        probe.due("find() behind the next read()", Probe.find(x, "a"), 0);
        x.wipe();
        x.read();
        probe.due("find() behind a read() of nothing", Probe.find(x, "a"), NONE);
    }
}
