/** Promises 5 and 6: read and fault. */
public final class ReadTest {
    private static final Probe probe = new Probe();

    public static void main(String[] args) {
        counts();
        depths();
        behindFault();
        again();
        probe.finish();
    }

    private static void counts() {
        count("", 1);
        count("\n  \n\t\n", 1);
        count("a", 2);
        count("a\n\nb", 3);
        count("- a", 4);
        count("[a]: b", 1);
        count("-\n+\n-\n+", 9);
    }

    private static void count(String text, int want) {
        MarkBlocks x = new MarkBlocks();
        Probe.put(x, text);
        probe.due("read() of " + Probe.quoted(text), Probe.read(x), want);
        probe.due("about(1) of " + Probe.quoted(text), x.about(1), want);
        probe.due("the tape stays", x.about(0), text.length());
        probe.due("fault()", x.fault(), MarkBlocks.NONE);
    }

    private static void depths() {
        count(">>>>>>>>>>>>a", 14);
        probe.tooDeep(">>>>>>>>>>>>>a", 0);
        probe.tooDeep(">>>>>>>>>>>>>", 0);
        count("- + - + - + a", 14);
        probe.tooDeep("- + - + - + - a", 0);
        probe.tooDeep("- + - + - + >", 0);
        count("- + - + - > a", 13);
        probe.tooDeep("- + - + - > - a", 0);
        count("- + - + - > > a", 14);
        probe.tooDeep("a\n\n- + - + - > > > a\n", 2);
        probe.tooDeep(">>>>>>>>>>>> a\n>>>>>>>>>>>> - b\n", 1);
        count("- + - + - +\n- + - + - +\n", 24);
        count(">>>>>>>>>>>> a\n\n>>>>>>>>>>>> # b\n", 27);
        count("- + - + - + # h", 14);
        count("- + - + - + a\n          + b", 16);
        probe.tooDeep("- + - + - + a\n          + > b", 1);
        count("- + - + - +     c", 14);
        count(">>>>>>>>>>>>     >", 14);
        count("a\n    >>>>>>>>>>>>>", 2);
        count("    >>>>>>>>>>>>>", 2);
        count("```\n>>>>>>>>>>>>>", 2);
    }

    private static void behindFault() {
        MarkBlocks x = new MarkBlocks();
        Probe.put(x, "[a]: b\n\n# c\n>>>>>>>>>>>>>");
        probe.due("read()", Probe.read(x), "throws");
        probe.due("fault()", x.fault(), 3);
        probe.due("no document", x.block(0, 0), MarkBlocks.NONE);
        probe.due("no heading", x.block(1, 0), MarkBlocks.NONE);
        probe.due("no letter", x.letter(1, false, 0), MarkBlocks.NONE);
        probe.due("no blocks", x.about(1), 0);
        probe.due("no lines", x.about(2), 0);
        probe.due("no definitions", x.definitions(), 0);
        probe.due("no definition", x.definition(0, 0), MarkBlocks.NONE);
        probe.due("the tape stays", x.about(0), 25);
        probe.due("nothing to find", Probe.find(x, "a"), MarkBlocks.NONE);
        probe.due("fault() behind wipe() and end()", x.fault(), 3);
        probe.due("read() of the new tape", Probe.read(x), 2);
        probe.due("fault() behind a good read()", x.fault(), MarkBlocks.NONE);
    }

    private static void again() {
        MarkBlocks x = new MarkBlocks();
        Probe.put(x, "- a\n\n- b\n\n      c\n\n[d]: e\n```x\ny");
        probe.due("read()", Probe.read(x), 8);
        String first = Probe.outlineOf(x);
        probe.due("read() again", Probe.read(x), 8);
        probe.due("the same outline", Probe.outlineOf(x), first);
        probe.due("the same definitions", Probe.definitionsOf(x), "'d'='e'");
        x.wipe();
        probe.due("read() of nothing", Probe.read(x), 1);
        probe.due("the document alone", Probe.outlineOf(x), "(document 0-0)");
        Probe.put(x, "1. a\n2. b\n");
        x.read();
        probe.due("blocks that are used again are new", Probe.outlineOf(x),
            "(document 0-1 (list 0-1 n1 . (item 0-0 w3 (paragraph 0-0 'a')) (item 1-1 w3 (paragraph 1-1 'b'))))");
    }
}
