/** The boundaries of step 3 of a line, of texts, of FIRST and LAST, and of LOOSE. */
public final class RestBoundsTest {
    private static final Probe probe = new Probe();

    public static void main(String[] args) {
        nothingHasBegun();
        notAllHaveGoneOn();
        restIsNotBlank();
        tipIsParagraph();
        allStaysOpen();
        codeAtHand();
        paragraphAtHand();
        paragraphBegins();
        paragraphText();
        paragraphGoesAway();
        paragraphEnd();
        codeText();
        codeBlankEnd();
        documentEnd();
        first();
        lastOfLeaves();
        lastOfCode();
        lastOfHolders();
        looseItems();
        looseBlocks();
        looseDirectly();
        looseOwnAlone();
        looseGoneAway();
        tight();
        probe.finish();
    }

    private static void loose(String text, int list, int want) {
        MarkBlocks x = Probe.reading(text);
        probe.due("kind of block " + list + " of " + Probe.quoted(text), x.block(list, 0), 2);
        probe.due("LOOSE of block " + list + " of " + Probe.quoted(text), x.block(list, 3), want);
    }

    private static void nothingHasBegun() {
        probe.sentence("If nothing has begun in this line");
        probe.outline(">> a\n> b", "(document 0-1 (quote 0-1 (quote 0-1 (paragraph 0-1 'a/b'))))");
        probe.outline("> a\n- b", "(document 0-1 (quote 0-0 (paragraph 0-0 'a')) (list 1-1 - (item 1-1 w2 (paragraph 1-1 'b'))))");
        probe.outline(">> a\n> - b", "(document 0-1 (quote 0-1 (quote 0-0 (paragraph 0-0 'a'))"
            + " (list 1-1 - (item 1-1 w2 (paragraph 1-1 'b')))))");
        probe.outline("- a\n> b", "(document 0-1 (list 0-0 - (item 0-0 w2 (paragraph 0-0 'a'))) (quote 1-1 (paragraph 1-1 'b')))");
        probe.outline("- a\n- b", "(document 0-1 (list 0-1 - (item 0-0 w2 (paragraph 0-0 'a')) (item 1-1 w2 (paragraph 1-1 'b'))))");
    }

    private static void notAllHaveGoneOn() {
        probe.sentence("not all open blocks have gone on");
        probe.outline("> a\nb", "(document 0-1 (quote 0-1 (paragraph 0-1 'a/b')))");
        probe.outline("> a\n> b", "(document 0-1 (quote 0-1 (paragraph 0-1 'a/b')))");
        probe.outline("- a\nb", "(document 0-1 (list 0-1 - (item 0-1 w2 (paragraph 0-1 'a/b'))))");
        probe.outline("- a\n b", "(document 0-1 (list 0-1 - (item 0-1 w2 (paragraph 0-1 'a/b'))))");
        probe.outline("- a\n  b", "(document 0-1 (list 0-1 - (item 0-1 w2 (paragraph 0-1 'a/b'))))");
        probe.outline("[a]: b\n=\nc", "(document 0-2 (paragraph 1-2 '=/c'))");
    }

    private static void restIsNotBlank() {
        probe.sentence("the rest is not blank");
        probe.outline(">> a\n> .", "(document 0-1 (quote 0-1 (quote 0-1 (paragraph 0-1 'a/.'))))");
        probe.outline(">> a\n> \n> b", "(document 0-2 (quote 0-2 (quote 0-0 (paragraph 0-0 'a')) (paragraph 2-2 'b')))");
        probe.outline("> a\n    \nb", "(document 0-2 (quote 0-0 (paragraph 0-0 'a')) (paragraph 2-2 'b'))");
        probe.outline("> a\n    .\nb", "(document 0-2 (quote 0-2 (paragraph 0-2 'a/./b')))");
    }

    private static void tipIsParagraph() {
        probe.sentence("and the TIP is a PARAGRAPH: the rest comes to that");
        probe.outline("> # a\nb", "(document 0-1 (quote 0-0 (heading 0-0 n1 'a')) (paragraph 1-1 'b'))");
        probe.outline("> ***\nb", "(document 0-1 (quote 0-0 (rule 0-0)) (paragraph 1-1 'b'))");
        probe.outline("> ~~~\nb", "(document 0-1 (quote 0-0 (code 0-0 ~)) (paragraph 1-1 'b'))");
        probe.outline(">     a\nb", "(document 0-1 (quote 0-0 (code 0-0 'a/')) (paragraph 1-1 'b'))");
        probe.outline(">\nb", "(document 0-1 (quote 0-0) (paragraph 1-1 'b'))");
        probe.outline("-\nb", "(document 0-1 (list 0-0 - (item 0-0 w2)) (paragraph 1-1 'b'))");
        probe.outline("> a\n> =\nb", "(document 0-2 (quote 0-1 (heading 0-1 n1 'a')) (paragraph 2-2 'b'))");
        probe.outline("> a\n>\nb", "(document 0-2 (quote 0-0 (paragraph 0-0 'a')) (paragraph 2-2 'b'))");
    }

    private static void allStaysOpen() {
        probe.sentence("(and all stays open)");
        probe.outline("> a\nb\n> c", "(document 0-2 (quote 0-2 (paragraph 0-2 'a/b/c')))");
        probe.outline("> - a\nb\n>   c\n> - d", "(document 0-3 (quote 0-3 (list 0-3 - (item 0-2 w2 (paragraph 0-2 'a/b/c'))"
            + " (item 3-3 w2 (paragraph 3-3 'd')))))");
        probe.outline("> a\nb\n> # c", "(document 0-2 (quote 0-2 (paragraph 0-1 'a/b') (heading 2-2 n1 'c')))");
    }

    private static void codeAtHand() {
        probe.sentence("Else what has not gone on is closed, and: CODE at hand: the rest comes to it as a line.");
        probe.outline("~~~\n\n a", "(document 0-2 (code 0-2 ~ '/ a/'))");
        probe.outline("    a", "(document 0-0 (code 0-0 'a/'))");
        probe.outline("~~~\n" + "\n".repeat(2996), "(document 0-2996 (code 0-2996 ~ '" + "/".repeat(2996) + "'))");
    }

    private static void paragraphAtHand() {
        probe.sentence("PARAGRAPH at hand: the rest comes to it.");
        probe.outline("a\nb", "(document 0-1 (paragraph 0-1 'a/b'))");
        probe.outline("> a\n>      b", "(document 0-1 (quote 0-1 (paragraph 0-1 'a/b')))");
    }

    private static void paragraphBegins() {
        probe.sentence("Else, if the rest is not blank, a PARAGRAPH begins in the block at hand, and it comes to that.");
        probe.outline(" ", "(document 0-0)");
        probe.outline(" .", "(document 0-0 (paragraph 0-0 '.'))");
        probe.outline(">  ", "(document 0-0 (quote 0-0))");
        probe.outline(">  .", "(document 0-0 (quote 0-0 (paragraph 0-0 '.')))");
        probe.outline("-  ", "(document 0-0 (list 0-0 - (item 0-0 w2)))");
        probe.outline("-  .", "(document 0-0 (list 0-0 - (item 0-0 w3 (paragraph 0-0 '.'))))");
        probe.outline("- # a\n.", "(document 0-1 (list 0-0 - (item 0-0 w2 (heading 0-0 n1 'a'))) (paragraph 1-1 '.'))");
    }

    private static void paragraphText() {
        probe.sentence("A PARAGRAPH's text are its lines, each without spaces at its beginning, with 10 between.");
        probe.outline("   a", "(document 0-0 (paragraph 0-0 'a'))");
        probe.outline("a  \n     b\tc\n\t\td", "(document 0-2 (paragraph 0-2 'a  /b  c/d'))");
        probe.outline("\fa\n\fb", "(document 0-1 (paragraph 0-1 '\fa/\fb'))");
        MarkBlocks x = Probe.reading("a\n".repeat(1500));
        probe.due("letters of 1500 lines", x.block(1, 4), 2999);
        probe.due("the last letter", x.letter(1, false, 2998), 97);
        probe.due("10 ahead of it", x.letter(1, false, 2997), 10);
    }

    private static void paragraphGoesAway() {
        probe.sentence("When it is closed its DEFINITIONS are taken, and it goes away if nothing is left");
        probe.outline("[a]: b", "(document 0-0)");
        probe.outline("[a]: b\n[c]: d\n[a]: e", "(document 0-0)");
        probe.outline("[a]: b\n.", "(document 0-1 (paragraph 0-1 '.'))");
        probe.outline("> [a]: b", "(document 0-0 (quote 0-0))");
        probe.outline("- [a]: b", "(document 0-0 (list 0-0 - (item 0-0 w2)))");
        probe.outline("[a]: b\n\n\n[c]: d\n\n.", "(document 0-5 (paragraph 5-5 '.'))");
        probe.outline("[a]: b   ", "(document 0-0)");
    }

    private static void paragraphEnd() {
        probe.sentence("its text is without WHITE at the end then");
        probe.outline("a" + " ".repeat(60), "(document 0-0 (paragraph 0-0 'a'))");
        probe.outline("a\t", "(document 0-0 (paragraph 0-0 'a'))");
        probe.outline("a\nb \t ", "(document 0-1 (paragraph 0-1 'a/b'))");
        probe.outline("a\f\u00a0", "(document 0-0 (paragraph 0-0 'a\f\u00a0'))");
        probe.outline("[a]: b\n. ", "(document 0-1 (paragraph 0-1 '.'))");
    }

    private static void codeText() {
        probe.sentence("CODE's text are its lines, each with 10 behind");
        probe.outline("~~~", "(document 0-0 (code 0-0 ~))");
        probe.outline("~~~\n~~~", "(document 0-1 (code 0-1 ~))");
        probe.outline("~~~\n\n~~~", "(document 0-2 (code 0-2 ~ '/'))");
        probe.outline("~~~\na\n~~~", "(document 0-2 (code 0-2 ~ 'a/'))");
        probe.outline("~~~\na  ", "(document 0-1 (code 0-1 ~ 'a  /'))");
        probe.outline("~~~\n\n\n", "(document 0-2 (code 0-2 ~ '//'))");
        probe.outline("    a", "(document 0-0 (code 0-0 'a/'))");
    }

    private static void codeBlankEnd() {
        probe.sentence("without a fence the blank ones at its end don't count");
        probe.outline("    a\n\n     \n", "(document 0-0 (code 0-0 'a/'))");
        probe.outline("    a\n\n     .\n", "(document 0-2 (code 0-2 'a// ./'))");
        probe.outline("    a\n\n\n    b\n    ", "(document 0-3 (code 0-3 'a///b/'))");
        probe.outline("    a\n\nb", "(document 0-2 (code 0-0 'a/') (paragraph 2-2 'b'))");
        probe.outline("~~~\na\n\n", "(document 0-2 (code 0-2 ~ 'a//'))");
        probe.outline("    a\n\n# b\n    c", "(document 0-3 (code 0-0 'a/') (heading 2-2 n1 'b') (code 3-3 'c/'))");
    }

    private static void documentEnd() {
        probe.sentence("At the document's end all is closed.");
        probe.defines("> - [a]: b", "'a'='b'");
        probe.outline("> - [a]: b", "(document 0-0 (quote 0-0 (list 0-0 - (item 0-0 w2))))");
        probe.outline("> - a  ", "(document 0-0 (quote 0-0 (list 0-0 - (item 0-0 w2 (paragraph 0-0 'a')))))");
        probe.outline("> ~~~", "(document 0-0 (quote 0-0 (code 0-0 ~)))");
    }

    private static void first() {
        probe.sentence("FIRST is the line in which a block began (also of a paragraph whose definitions went, and of a heading"
            + " that it became; the document's 0)");
        probe.outline("\n\n\na", "(document 0-3 (paragraph 3-3 'a'))");
        probe.outline("\n[a]:\nb\n'c'\nd", "(document 0-4 (paragraph 1-4 'd'))");
        probe.outline("\n[a]:\nb\nd\n-", "(document 0-4 (heading 1-4 n2 'd'))");
        probe.outline("[a]: b\n=\n=", "(document 0-2 (heading 1-2 n1 '='))");
        probe.outline("\n    \n    a", "(document 0-2 (code 2-2 'a/'))");
        probe.outline("\n>\n> a", "(document 0-2 (quote 1-2 (paragraph 2-2 'a')))");
    }

    private static void lastOfLeaves() {
        probe.sentence("LAST that of the last line that came to it (also a closing fence; a RULE's, HEADING's own: that of = or - too)");
        probe.outline("a\nb\n\n", "(document 0-1 (paragraph 0-1 'a/b'))");
        probe.outline("> a\nb", "(document 0-1 (quote 0-1 (paragraph 0-1 'a/b')))");
        probe.outline("a\n[b]: c", "(document 0-1 (paragraph 0-1 'a/[b]: c'))");
        probe.outline("***\n\n# a\n\nb\nc\n-", "(document 0-6 (rule 0-0) (heading 2-2 n1 'a') (heading 4-6 n2 'b/c'))");
        probe.outline("a\n=\n\n", "(document 0-1 (heading 0-1 n1 'a'))");
    }

    private static void lastOfCode() {
        probe.sentence("also a closing fence; CODE without a fence: the last that counts");
        probe.outline("~~~\na", "(document 0-1 (code 0-1 ~ 'a/'))");
        probe.outline("~~~\na\n~~~\n\n", "(document 0-2 (code 0-2 ~ 'a/'))");
        probe.outline("~~~\n\n\n", "(document 0-2 (code 0-2 ~ '//'))");
        probe.outline("~~~", "(document 0-0 (code 0-0 ~))");
        probe.outline("    a\n    b\n\n\n", "(document 0-1 (code 0-1 'a/b/'))");
    }

    private static void lastOfHolders() {
        probe.sentence("of DOCUMENT, QUOTE, LIST, ITEM the greatest LAST of what they hold, at least their FIRST");
        probe.outline("", "(document 0-0)");
        probe.outline("\n\n\n", "(document 0-0)");
        probe.outline("\n\n>\n>\n>", "(document 0-2 (quote 2-2))");
        probe.outline("\n-\n\n", "(document 0-1 (list 1-1 - (item 1-1 w2)))");
        probe.outline("\n- a\n  b\n\n\n- c\n\n", "(document 0-5 (list 1-5 - loose (item 1-2 w2 (paragraph 1-2 'a/b'))"
            + " (item 5-5 w2 (paragraph 5-5 'c'))))");
        probe.outline("\n> [a]:\n> b\n\n", "(document 0-1 (quote 1-1))");
        probe.outline("> a\n>\n> ~~~\n> b\n> ~~~", "(document 0-4 (quote 0-4 (paragraph 0-0 'a') (code 2-4 ~ 'b/')))");
    }

    private static void looseItems() {
        probe.sentence("A LIST is LOOSE if the FIRST of an ITEM behind another one of it is more than 1 above the LAST of that other one");
        loose("- a\n- b", 1, 0);
        loose("- a\n\n- b", 1, 1);
        loose("- a\n\n\n- b", 1, 1);
        loose("- a\nb\nc\n- d", 1, 0);
        loose("- a\n  b\n\n- d", 1, 1);
        loose("-\n-", 1, 0);
        loose("-\n\n-", 1, 1);
        loose("- ~~~\n\n- b", 1, 0);
        loose("-     a\n\n- b", 1, 1);
        loose("- > a\n- b", 1, 0);
        loose("- > a\n  >\n- b", 1, 1);
    }

    private static void looseBlocks() {
        probe.sentence("or of a block behind another one in an ITEM of it");
        loose("- a\n  # b", 1, 0);
        loose("- a\n\n  # b", 1, 1);
        loose("- # a\n  b", 1, 0);
        loose("- # a\n\n  b", 1, 1);
        loose("- a\n- b\n\n  c", 1, 1);
        loose("- a\n  ~~~\n\n  ~~~\n  b", 1, 0);
        loose("- a\n  ~~~\n  ~~~\n\n  b", 1, 1);
        loose("-\n  a", 1, 0);
    }

    private static void looseDirectly() {
        probe.sentence("behind another one, more than 1 above the LAST of that other one");
        loose("- a\n- b\n- c\n- d", 1, 0);
        loose("- a\n- b\n- c\n\n- d", 1, 1);
        loose("- a\n\n- b\n- c\n- d", 1, 1);
        loose("- # a\n  # b\n  # c", 1, 0);
        loose("- # a\n  # b\n\n  # c", 1, 1);
    }

    private static void looseOwnAlone() {
        probe.sentence("of an ITEM behind another one of it, or of a block behind another one in an ITEM of it");
        loose("- a\n  - b\n\n  - c", 1, 0);
        loose("- a\n  - b\n\n  - c", 4, 1);
        loose("- a\n  - b\n\n- c", 1, 1);
        loose("- a\n  - b\n\n- c", 4, 0);
        loose("- > a\n  >\n  > b", 1, 0);
        loose("> - a\n>\n> b", 2, 0);
        loose("- a\n\n\nb", 1, 0);
        loose("- a\n\n+ b", 1, 0);
        loose("- a\n\n+ b", 4, 0);
    }

    private static void looseGoneAway() {
        probe.sentence("(what has gone away counts nowhere)");
        loose("- [a]: b\n\n  c", 1, 0);
        loose("- c\n\n  [a]: b", 1, 0);
        loose("- # c\n  [a]: b\n  # d", 1, 1);
        loose("- c\n- [a]:\n  b\n- d", 1, 1);
        loose("- c\n- [a]: b\n- d", 1, 0);
    }

    private static void tight() {
        probe.sentence("else TIGHT");
        loose("-", 1, 0);
        loose("- a", 1, 0);
        loose("- a\n\n\n", 1, 0);
        loose("\n\n- a", 1, 0);
    }
}
