/** The boundaries of what holds what: which blocks are open, and how deep they may lie in one another. */
public final class HoldingBoundsTest {
    private static final Probe probe = new Probe();
    private static final int DEEPEST = 12;

    public static void main(String[] args) {
        kinds();
        open();
        closedStaysSo();
        closedWithItsHolder();
        listHoldsItemsAlone();
        itemInListAlone();
        paragraphIsClosedFirst();
        paragraphGoesAwayFirst();
        firstPlace();
        quotesInOneAnother();
        itemsInOneAnother();
        lastIsList();
        depthOfOpenOnes();
        depthInALaterLine();
        leavesAreNotCounted();
        depthBehindAClosedList();
        lineThatIsTooDeep();
        marksThatAreNone();
        probe.finish();
    }

    /** The text is read whole, and has so many blocks. */
    private static void blocks(String text, int want) {
        MarkBlocks x = new MarkBlocks();
        Probe.put(x, text);
        probe.due("read() of " + Probe.quoted(text), Probe.read(x), want);
        probe.due("fault() behind read() of " + Probe.quoted(text), x.fault(), MarkBlocks.NONE);
    }

    private static void kinds() {
        probe.sentence("A BLOCK is the DOCUMENT, a QUOTE, LIST, ITEM (these hold blocks), a PARAGRAPH, HEADING, RULE or CODE");
        MarkBlocks x = Probe.reading("> - a\n\n# b\n***\n~~~");
        int[] kinds = {0, 1, 2, 3, 4, 5, 6, 7, MarkBlocks.NONE};
        int[] holders = {MarkBlocks.NONE, 0, 1, 2, 3, 0, 0, 0, MarkBlocks.NONE};
        for (int k = 0; k < kinds.length; k++) {
            probe.due("block(" + k + ", 0)", x.block(k, 0), kinds[k]);
            probe.due("block(" + k + ", 1)", x.block(k, 1), holders[k]);
        }
    }

    private static void open() {
        probe.sentence("OPEN are the document and, as long as it is not closed, the last block in an open one, and so on;"
            + " the innermost is the TIP.");
        probe.outline("> a\n\n> b\nc", "(document 0-3 (quote 0-0 (paragraph 0-0 'a')) (quote 2-3 (paragraph 2-3 'b/c')))");
        probe.outline("> a\n> > b\nc", "(document 0-2 (quote 0-2 (paragraph 0-0 'a') (quote 1-2 (paragraph 1-2 'b/c'))))");
        probe.outline("\n\n\na", "(document 0-3 (paragraph 3-3 'a'))");
    }

    private static void closedStaysSo() {
        probe.sentence("What is closed stays so");
        probe.outline("> a\n\n> b", "(document 0-2 (quote 0-0 (paragraph 0-0 'a')) (quote 2-2 (paragraph 2-2 'b')))");
        probe.outline("- a\n***\n  b", "(document 0-2 (list 0-0 - (item 0-0 w2 (paragraph 0-0 'a'))) (rule 1-1) (paragraph 2-2 'b'))");
        probe.outline("- a\n# b\n- c", "(document 0-2 (list 0-0 - (item 0-0 w2 (paragraph 0-0 'a'))) (heading 1-1 n1 'b')"
            + " (list 2-2 - (item 2-2 w2 (paragraph 2-2 'c'))))");
        probe.outline("~~~\n~~~\na\n~~~", "(document 0-3 (code 0-1 ~) (paragraph 2-2 'a') (code 3-3 ~))");
    }

    private static void closedWithItsHolder() {
        probe.sentence("with a block those in it are closed");
        probe.outline("> ~~~\n\na", "(document 0-2 (quote 0-0 (code 0-0 ~)) (paragraph 2-2 'a'))");
        probe.outline("> a\n# b\nc", "(document 0-2 (quote 0-0 (paragraph 0-0 'a')) (heading 1-1 n1 'b') (paragraph 2-2 'c'))");
        probe.outline("> - a\n***\nb", "(document 0-2 (quote 0-0 (list 0-0 - (item 0-0 w2 (paragraph 0-0 'a')))) (rule 1-1)"
            + " (paragraph 2-2 'b'))");
        probe.defines("> - [a]: b\n***\n[c]: d", "'a'='b' 'c'='d'");
    }

    private static void listHoldsItemsAlone() {
        probe.sentence("where another block than an ITEM begins in a LIST, that LIST is closed first and it begins in what holds that");
        String[] lines = {"> b", "# b", "~~~", "***"};
        String[] told = {"(quote 1-1 (paragraph 1-1 'b'))", "(heading 1-1 n1 'b')", "(code 1-1 ~)", "(rule 1-1)"};
        for (int i = 0; i < lines.length; i++) {
            probe.outline("- # a\n" + lines[i], "(document 0-1 (list 0-0 - (item 0-0 w2 (heading 0-0 n1 'a'))) " + told[i] + ")");
            probe.outline("> - # a\n> " + lines[i],
                "(document 0-1 (quote 0-1 (list 0-0 - (item 0-0 w2 (heading 0-0 n1 'a'))) " + told[i] + "))");
        }
        probe.outline("- # a\nb\n- c", "(document 0-2 (list 0-0 - (item 0-0 w2 (heading 0-0 n1 'a'))) (paragraph 1-1 'b')"
            + " (list 2-2 - (item 2-2 w2 (paragraph 2-2 'c'))))");
        probe.outline("-\n\n    a", "(document 0-2 (list 0-0 - (item 0-0 w2)) (code 2-2 'a/'))");
        probe.outline("- # a\n+ b", "(document 0-1 (list 0-0 - (item 0-0 w2 (heading 0-0 n1 'a')))"
            + " (list 1-1 + (item 1-1 w2 (paragraph 1-1 'b'))))");
    }

    private static void itemInListAlone() {
        probe.sentence("an ITEM stands in a LIST alone");
        probe.outline("- - -a", "(document 0-0 (list 0-0 - (item 0-0 w2 (list 0-0 - (item 0-0 w2 (paragraph 0-0 '-a'))))))");
        probe.outline("> -\n> -", "(document 0-1 (quote 0-1 (list 0-1 - (item 0-0 w2) (item 1-1 w2))))");
    }

    private static void paragraphIsClosedFirst() {
        probe.sentence("where a block begins in a PARAGRAPH, this is closed first, and it begins in what holds it");
        String[] lines = {"> b", "# b", "~~~", "***", "- b"};
        String[] told = {"(quote 1-1 (paragraph 1-1 'b'))", "(heading 1-1 n1 'b')", "(code 1-1 ~)", "(rule 1-1)",
            "(list 1-1 - (item 1-1 w2 (paragraph 1-1 'b')))"};
        for (int i = 0; i < lines.length; i++) {
            probe.outline("a\n" + lines[i], "(document 0-1 (paragraph 0-0 'a') " + told[i] + ")");
            probe.outline("> a\n> " + lines[i], "(document 0-1 (quote 0-1 (paragraph 0-0 'a') " + told[i] + "))");
            probe.outline("- a\n  " + lines[i], "(document 0-1 (list 0-1 - (item 0-1 w2 (paragraph 0-0 'a') " + told[i] + ")))");
        }
    }

    private static void paragraphGoesAwayFirst() {
        probe.sentence("this is closed first (also if it goes away then)");
        String[] lines = {"> b", "# b", "~~~", "***", "- b"};
        String[] told = {"(quote 1-1 (paragraph 1-1 'b'))", "(heading 1-1 n1 'b')", "(code 1-1 ~)", "(rule 1-1)",
            "(list 1-1 - (item 1-1 w2 (paragraph 1-1 'b')))"};
        for (int i = 0; i < lines.length; i++) {
            probe.outline("[a]: b\n" + lines[i], "(document 0-1 " + told[i] + ")");
            probe.outline("> [a]: b\n> " + lines[i], "(document 0-1 (quote 0-1 " + told[i] + "))");
            probe.outline("- [a]: b\n  " + lines[i], "(document 0-1 (list 0-1 - (item 0-1 w2 " + told[i] + ")))");
        }
    }

    private static void firstPlace() {
        probe.sentence("It has a PLACE, 0 at first; I are the spaces from there on (how many)");
        probe.outline("> a\n\n    b", "(document 0-2 (quote 0-0 (paragraph 0-0 'a')) (code 2-2 'b/'))");
        probe.outline("    a\n\n   b", "(document 0-2 (code 0-0 'a/') (paragraph 2-2 'b'))");
    }

    private static void quotesInOneAnother() {
        probe.sentence("A block that would be the 13th QUOTE, LIST or ITEM inside one another: TOO DEEP");
        for (int n = 1; n <= DEEPEST; n++) {
            blocks(">".repeat(n), 1 + n);
            blocks("> ".repeat(n) + "a", 2 + n);
        }
        probe.tooDeep(">".repeat(13), 0);
        probe.tooDeep("> ".repeat(13) + "a", 0);
        probe.tooDeep(">".repeat(14), 0);
        probe.tooDeep(">".repeat(3000), 0);
    }

    private static void itemsInOneAnother() {
        probe.sentence("the 13th QUOTE, LIST or ITEM inside one another");
        for (int n = 1; 2 * n <= DEEPEST; n++) {
            blocks("1) ".repeat(n), 1 + 2 * n);
            blocks("1) ".repeat(n) + "a", 2 + 2 * n);
        }
        probe.tooDeep("1) ".repeat(7), 0);
        probe.tooDeep("1) ".repeat(7) + "a", 0);
        probe.tooDeep("1) ".repeat(1000), 0);
        blocks("1) ".repeat(5) + ">>", 13);
        probe.tooDeep("1) ".repeat(5) + ">>>", 0);
        probe.tooDeep("1) ".repeat(6) + ">", 0);
    }

    private static void lastIsList() {
        probe.sentence("the 13th QUOTE, LIST or ITEM inside one another (a LIST that is the 12th has an ITEM that is the 13th)");
        blocks(">".repeat(10) + "-", 13);
        probe.tooDeep(">".repeat(11) + "-", 0);
        probe.tooDeep(">".repeat(12) + "-", 0);
        probe.tooDeep(">".repeat(11) + "1. a", 0);
        blocks("- ".repeat(2) + ">".repeat(6) + "- a", 14);
        probe.tooDeep("- ".repeat(2) + ">".repeat(7) + "- a", 0);
    }

    private static void depthOfOpenOnes() {
        probe.sentence("inside one another");
        blocks(">".repeat(12) + "\n\n" + ">".repeat(12), 25);
        blocks((">".repeat(12) + "\n\n").repeat(200), 2401);
        blocks("- + - + - +\n".repeat(20), 222);
        blocks("- + - + - + a\n          + b\n          + c", 18);
        blocks("- + - + - + a\n          - b", 17);
    }

    private static void depthInALaterLine() {
        probe.sentence("TOO DEEP, in that line");
        String eleven = ">".repeat(11);
        blocks(eleven + "\n" + eleven + ">", 13);
        blocks(eleven + ">\n" + eleven + ">", 13);
        probe.tooDeep(eleven + "\n" + eleven + ">>", 1);
        probe.tooDeep(eleven + ">\n" + eleven + ">>", 1);
        probe.tooDeep(eleven + "\n" + eleven + "-", 1);
        blocks("- + - + - + a\n            b", 14);
        probe.tooDeep("- + - + - + a\n            > b", 1);
        probe.tooDeep("- + - + - + a\n\n            - b", 2);
    }

    private static void leavesAreNotCounted() {
        probe.sentence("QUOTE, LIST or ITEM");
        String[] leaves = {"a", "# a", "***", "~~~", "     a"};
        for (String leaf : leaves) {
            blocks(">".repeat(12) + leaf, 14);
            blocks("1) ".repeat(6) + leaf, 14);
        }
        blocks(">".repeat(12) + "a\n" + ">".repeat(12) + "=", 14);
    }

    private static void depthBehindAClosedList() {
        probe.sentence("that LIST is closed first and it begins in what holds that");
        String ten = ">".repeat(10);
        blocks(ten + "-\n" + ten + "-", 14);
        blocks(ten + "-\n" + ten + "+", 15);
        blocks(ten + "-\n" + ten + ">", 14);
        blocks(ten + "-\n" + ten + ">>", 15);
        probe.tooDeep(ten + "-\n" + ten + ">>>", 1);
        blocks(ten + "[a]: b\n" + ten + "-", 13);
        probe.tooDeep(ten + ">[a]: b\n" + ten + ">-", 1);
    }

    private static void lineThatIsTooDeep() {
        probe.sentence("TOO DEEP, in that line.");
        String deep = ">".repeat(13);
        probe.tooDeep(deep, 0);
        probe.tooDeep("\n" + deep, 1);
        probe.tooDeep("a\r\n\r" + deep + "\n" + deep, 2);
        probe.tooDeep("\n".repeat(2987) + deep, 2987);
    }

    private static void marksThatAreNone() {
        probe.sentence("BEGINNINGS, unless a CODE is at hand; I below 4");
        String deep = ">".repeat(13);
        blocks("~~~\n" + deep, 2);
        blocks("    " + deep, 2);
        blocks("a\n    " + deep, 2);
        blocks("# " + deep, 2);
        blocks(">".repeat(12) + "     >", 14);
        probe.tooDeep(">".repeat(12) + "    >", 0);
    }
}
