/** The boundaries of step 1 of a line, GOING ON, a test for each sentence that names one. */
public final class GoingOnBoundsTest {
    private static final Probe probe = new Probe();

    public static void main(String[] args) {
        quoteMark();
        quotePlace();
        list();
        itemWithBlankRest();
        itemWidth();
        itemPlace();
        itemBlankPlace();
        paragraph();
        fenceIndent();
        fenceNumber();
        fenceSign();
        fenceBehind();
        fenceDone();
        fencePlace();
        codeIndent();
        codeBlank();
        headingAndRule();
        atHand();
        probe.finish();
    }

    private static void quoteMark() {
        probe.sentence("QUOTE: I below 4 and then >");
        String goesOn = "(document 0-1 (quote 0-1 (heading 0-0 n1 'a') (heading 1-1 n1 'b')))";
        probe.outline("> # a\n> # b", goesOn);
        probe.outline("> # a\n   > # b", goesOn);
        probe.outline("> # a\n    > # b", "(document 0-1 (quote 0-0 (heading 0-0 n1 'a')) (code 1-1 '> # b/'))");
        probe.outline("> # a\n# b", "(document 0-1 (quote 0-0 (heading 0-0 n1 'a')) (heading 1-1 n1 'b'))");
        probe.outline("> # a\n< # b", "(document 0-1 (quote 0-0 (heading 0-0 n1 'a')) (paragraph 1-1 '< # b'))");
        probe.outline("> # a\n\n> # b", "(document 0-2 (quote 0-0 (heading 0-0 n1 'a')) (quote 2-2 (heading 2-2 n1 'b')))");
        probe.outline(">> # a\n>   > # b", "(document 0-1 (quote 0-1 (quote 0-1 (heading 0-0 n1 'a') (heading 1-1 n1 'b'))))");
        probe.outline(">> # a\n>    > # b", "(document 0-1 (quote 0-1 (quote 0-1 (heading 0-0 n1 'a') (heading 1-1 n1 'b'))))");
        probe.outline(">> # a\n>     > # b", "(document 0-1 (quote 0-1 (quote 0-0 (heading 0-0 n1 'a')) (code 1-1 '> # b/')))");
    }

    private static void quotePlace() {
        probe.sentence("the place is behind that, and behind one space if there is one");
        probe.outline(">~~~\n>a", "(document 0-1 (quote 0-1 (code 0-1 ~ 'a/')))");
        probe.outline("> ~~~\n> a", "(document 0-1 (quote 0-1 (code 0-1 ~ 'a/')))");
        probe.outline(">~~~\n>  a", "(document 0-1 (quote 0-1 (code 0-1 ~ ' a/')))");
        probe.outline(">~~~\n   >   a", "(document 0-1 (quote 0-1 (code 0-1 ~ '  a/')))");
        probe.outline(">~~~\n>", "(document 0-1 (quote 0-1 (code 0-1 ~ '/')))");
        probe.outline(">~~~\n> ", "(document 0-1 (quote 0-1 (code 0-1 ~ '/')))");
        probe.outline(">~~~\n>  ", "(document 0-1 (quote 0-1 (code 0-1 ~ ' /')))");
    }

    private static void list() {
        probe.sentence("LIST: always.");
        probe.outline("-\n\n \n\n- a", "(document 0-4 (list 0-4 - loose (item 0-0 w2) (item 4-4 w2 (paragraph 4-4 'a'))))");
        probe.outline("- a\n   - b", "(document 0-1 (list 0-1 - (item 0-1 w2 (paragraph 0-0 'a')"
            + " (list 1-1 - (item 1-1 w3 (paragraph 1-1 'b'))))))");
        probe.outline("-   a\n   - b", "(document 0-1 (list 0-1 - (item 0-0 w4 (paragraph 0-0 'a'))"
            + " (item 1-1 w5 (paragraph 1-1 'b'))))");
        probe.outline("> - a\n- b", "(document 0-1 (quote 0-0 (list 0-0 - (item 0-0 w2 (paragraph 0-0 'a'))))"
            + " (list 1-1 - (item 1-1 w2 (paragraph 1-1 'b'))))");
    }

    private static void itemWithBlankRest() {
        probe.sentence("ITEM: if the rest is blank, it goes on if it holds something");
        probe.outline("- a\n\n  b", "(document 0-2 (list 0-2 - loose (item 0-2 w2 (paragraph 0-0 'a') (paragraph 2-2 'b'))))");
        probe.outline("- #\n\n\n\n  b", "(document 0-4 (list 0-4 - loose (item 0-4 w2 (heading 0-0 n1) (paragraph 4-4 'b'))))");
        probe.outline("- >\n\n  b", "(document 0-2 (list 0-2 - loose (item 0-2 w2 (quote 0-0) (paragraph 2-2 'b'))))");
        probe.outline("-\n\n  b", "(document 0-2 (list 0-0 - (item 0-0 w2)) (paragraph 2-2 'b'))");
        probe.outline("-\n  \n  b", "(document 0-2 (list 0-0 - (item 0-0 w2)) (paragraph 2-2 'b'))");
        probe.outline("-\n  a\n\n  b", "(document 0-3 (list 0-3 - loose (item 0-3 w2 (paragraph 1-1 'a') (paragraph 3-3 'b'))))");
        probe.outline("- [a]: b\n\n  c", "(document 0-2 (list 0-2 - (item 0-2 w2 (paragraph 2-2 'c'))))");
        probe.outline("- [a]: b\n\n\n  c", "(document 0-3 (list 0-0 - (item 0-0 w2)) (paragraph 3-3 'c'))");
        probe.outline("- -\n\n  b", "(document 0-2 (list 0-2 - loose (item 0-2 w2 (list 0-0 - (item 0-0 w2)) (paragraph 2-2 'b'))))");
    }

    private static void itemWidth() {
        probe.sentence("else if I is its WIDTH or more");
        probe.outline("- # a\n  b", "(document 0-1 (list 0-1 - (item 0-1 w2 (heading 0-0 n1 'a') (paragraph 1-1 'b'))))");
        probe.outline("- # a\n b", "(document 0-1 (list 0-0 - (item 0-0 w2 (heading 0-0 n1 'a'))) (paragraph 1-1 'b'))");
        probe.outline("-    # a\n     b", "(document 0-1 (list 0-1 - (item 0-1 w5 (heading 0-0 n1 'a') (paragraph 1-1 'b'))))");
        probe.outline("-    # a\n    b", "(document 0-1 (list 0-0 - (item 0-0 w5 (heading 0-0 n1 'a'))) (code 1-1 'b/'))");
        String widest = "   123456789)    # a\n";
        probe.outline(widest + " ".repeat(17) + "b", "(document 0-1 (list 0-1 n123456789 ) (item 0-1 w17"
            + " (heading 0-0 n1 'a') (paragraph 1-1 'b'))))");
        probe.outline(widest + " ".repeat(16) + "b", "(document 0-1 (list 0-0 n123456789 ) (item 0-0 w17"
            + " (heading 0-0 n1 'a'))) (code 1-1 '            b/'))");
        probe.outline("-\n  a", "(document 0-1 (list 0-1 - (item 0-1 w2 (paragraph 1-1 'a'))))");
        probe.outline("-\n a", "(document 0-1 (list 0-0 - (item 0-0 w2)) (paragraph 1-1 'a'))");
    }

    private static void itemPlace() {
        probe.sentence("the place is as many further");
        probe.outline("- # a\n     b", "(document 0-1 (list 0-1 - (item 0-1 w2 (heading 0-0 n1 'a') (paragraph 1-1 'b'))))");
        probe.outline("- # a\n      b", "(document 0-1 (list 0-1 - (item 0-1 w2 (heading 0-0 n1 'a') (code 1-1 'b/'))))");
        probe.outline("- ~~~\n  b\n   c", "(document 0-2 (list 0-2 - (item 0-2 w2 (code 0-2 ~ 'b/ c/'))))");
        probe.outline("- + # a\n    b", "(document 0-1 (list 0-1 - (item 0-1 w2 (list 0-1 +"
            + " (item 0-1 w2 (heading 0-0 n1 'a') (paragraph 1-1 'b'))))))");
        probe.outline("- + # a\n   b", "(document 0-1 (list 0-1 - (item 0-1 w2 (list 0-0 +"
            + " (item 0-0 w2 (heading 0-0 n1 'a'))) (paragraph 1-1 'b'))))");
    }

    private static void itemBlankPlace() {
        probe.sentence("(with a blank rest: at the line's end)");
        probe.outline("- ~~~\n\n  ~~~", "(document 0-2 (list 0-2 - (item 0-2 w2 (code 0-2 ~ '/'))))");
        probe.outline("- ~~~\n \n  ~~~", "(document 0-2 (list 0-2 - (item 0-2 w2 (code 0-2 ~ '/'))))");
        probe.outline("- ~~~\n       \n  ~~~", "(document 0-2 (list 0-2 - (item 0-2 w2 (code 0-2 ~ '/'))))");
        probe.outline("-     a\n         \n      b", "(document 0-2 (list 0-2 - (item 0-2 w2 (code 0-2 'a//b/'))))");
        probe.outline("~~~\n       \n~~~", "(document 0-2 (code 0-2 ~ '       /'))");
    }

    private static void paragraph() {
        probe.sentence("PARAGRAPH: if the rest is not blank.");
        probe.outline("a\n.", "(document 0-1 (paragraph 0-1 'a/.'))");
        probe.outline("a\n \nb", "(document 0-2 (paragraph 0-0 'a') (paragraph 2-2 'b'))");
        probe.outline("> a\n>\n> b", "(document 0-2 (quote 0-2 (paragraph 0-0 'a') (paragraph 2-2 'b')))");
        probe.outline("> a\n> .\n> b", "(document 0-2 (quote 0-2 (paragraph 0-2 'a/./b')))");
    }

    private static void fenceIndent() {
        probe.sentence("CODE with a FENCE: if I is below 4");
        probe.outline("~~~\n~~~\na", "(document 0-2 (code 0-1 ~) (paragraph 2-2 'a'))");
        probe.outline("~~~\n   ~~~\na", "(document 0-2 (code 0-1 ~) (paragraph 2-2 'a'))");
        probe.outline("~~~\n    ~~~\na", "(document 0-2 (code 0-2 ~ '    ~~~/a/'))");
        probe.outline("   ~~~\n    ~~~\na", "(document 0-2 (code 0-2 ~ ' ~~~/a/'))");
        probe.outline("> ~~~\n>    ~~~\n> a", "(document 0-2 (quote 0-2 (code 0-1 ~) (paragraph 2-2 'a')))");
        probe.outline("> ~~~\n>     ~~~\n> a", "(document 0-2 (quote 0-2 (code 0-2 ~ '    ~~~/a/')))");
    }

    private static void fenceNumber() {
        probe.sentence("at least as many of its sign come as its fence had");
        int[] numbers = {3, 4, 7, 900};
        for (int n : numbers) {
            String fence = "~".repeat(n);
            String less = "~".repeat(n - 1);
            probe.outline(fence + "\n" + fence + "\na", "(document 0-2 (code 0-1 ~) (paragraph 2-2 'a'))");
            probe.outline(fence + "\n~" + fence + "\na", "(document 0-2 (code 0-1 ~) (paragraph 2-2 'a'))");
            probe.outline(fence + "\n" + less + "\na", "(document 0-2 (code 0-2 ~ '" + less + "/a/'))");
        }
    }

    private static void fenceSign() {
        probe.sentence("of its sign");
        probe.outline("```\n~~~\na", "(document 0-2 (code 0-2 ` '~~~/a/'))");
        probe.outline("~~~\n```\na", "(document 0-2 (code 0-2 ~ '```/a/'))");
        probe.outline("~~~\n~~`\na", "(document 0-2 (code 0-2 ~ '~~`/a/'))");
        probe.outline("```\n```\na", "(document 0-2 (code 0-1 `) (paragraph 2-2 'a'))");
    }

    private static void fenceBehind() {
        probe.sentence("and spaces alone behind");
        probe.outline("~~~\n~~~  \t \na", "(document 0-2 (code 0-1 ~) (paragraph 2-2 'a'))");
        probe.outline("~~~\n~~~ .\na", "(document 0-2 (code 0-2 ~ '~~~ ./a/'))");
        probe.outline("~~~\n~~~`\na", "(document 0-2 (code 0-2 ~ '~~~`/a/'))");
        probe.outline("~~~\n~~~ ~\na", "(document 0-2 (code 0-2 ~ '~~~ ~/a/'))");
    }

    private static void fenceDone() {
        probe.sentence("it is closed, and the line is done");
        probe.outline("~~~\n~~~", "(document 0-1 (code 0-1 ~))");
        probe.outline("~~~\n~~~\n~~~", "(document 0-2 (code 0-1 ~) (code 2-2 ~))");
        probe.outline("~~~\n~~~\n    a", "(document 0-2 (code 0-1 ~) (code 2-2 'a/'))");
        probe.outline("- ~~~\n  ~~~\n  a", "(document 0-2 (list 0-2 - (item 0-2 w2 (code 0-1 ~) (paragraph 2-2 'a'))))");
    }

    private static void fencePlace() {
        probe.sentence("the place is as many spaces further as its fence's I, at most as there are");
        probe.outline("~~~\n a", "(document 0-1 (code 0-1 ~ ' a/'))");
        probe.outline(" ~~~\na\n b\n  c", "(document 0-3 (code 0-3 ~ 'a/b/ c/'))");
        probe.outline("   ~~~\na\n  b\n   c\n    d", "(document 0-4 (code 0-4 ~ 'a/b/c/ d/'))");
        probe.outline("   ~~~\n  \n   \n    ", "(document 0-3 (code 0-3 ~ '// /'))");
        probe.outline("> ~~~\n>  a", "(document 0-1 (quote 0-1 (code 0-1 ~ ' a/')))");
        probe.outline(">  ~~~\n>  a\n>   b", "(document 0-2 (quote 0-2 (code 0-2 ~ 'a/ b/')))");
    }

    private static void codeIndent() {
        probe.sentence("CODE without one: I is 4 or more: the place is 4 further");
        probe.outline("    a\n    b", "(document 0-1 (code 0-1 'a/b/'))");
        probe.outline("    a\n     b", "(document 0-1 (code 0-1 'a/ b/'))");
        probe.outline("    a\n   b", "(document 0-1 (code 0-0 'a/') (paragraph 1-1 'b'))");
        probe.outline(">     a\n>     b", "(document 0-1 (quote 0-1 (code 0-1 'a/b/')))");
        probe.outline(">     a\n>    b", "(document 0-1 (quote 0-1 (code 0-0 'a/') (paragraph 1-1 'b')))");
    }

    private static void codeBlank() {
        probe.sentence("or a blank rest: the place is behind its spaces (if fewer than 4)");
        probe.outline("    a\n\n    b", "(document 0-2 (code 0-2 'a//b/'))");
        probe.outline("    a\n   \n    b", "(document 0-2 (code 0-2 'a//b/'))");
        probe.outline("    a\n    \n    b", "(document 0-2 (code 0-2 'a//b/'))");
        probe.outline("    a\n     \n    b", "(document 0-2 (code 0-2 'a/ /b/'))");
    }

    private static void headingAndRule() {
        probe.sentence("HEADING and RULE never.");
        probe.outline("# a\nb", "(document 0-1 (heading 0-0 n1 'a') (paragraph 1-1 'b'))");
        probe.outline("a\n=\nb", "(document 0-2 (heading 0-1 n1 'a') (paragraph 2-2 'b'))");
        probe.outline("***\nb", "(document 0-1 (rule 0-0) (paragraph 1-1 'b'))");
        probe.outline("***\n***", "(document 0-1 (rule 0-0) (rule 1-1))");
        probe.outline("# a\n=", "(document 0-1 (heading 0-0 n1 'a') (paragraph 1-1 '='))");
    }

    private static void atHand() {
        probe.sentence("AT HAND is the last block that goes on (the document, if none does).");
        probe.outline(">> # a\n> # b\n# c", "(document 0-2 (quote 0-1 (quote 0-0 (heading 0-0 n1 'a')) (heading 1-1 n1 'b'))"
            + " (heading 2-2 n1 'c'))");
        probe.outline("> ~~~\n~~~", "(document 0-1 (quote 0-0 (code 0-0 ~)) (code 1-1 ~))");
        probe.outline("> - a\n>> b", "(document 0-1 (quote 0-1 (list 0-0 - (item 0-0 w2 (paragraph 0-0 'a')))"
            + " (quote 1-1 (paragraph 1-1 'b'))))");
    }
}
