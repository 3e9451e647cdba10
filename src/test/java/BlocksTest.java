/** Promise 7 over the part BLOCKS of the document: what goes on, what begins, where the rest comes to. */
public final class BlocksTest {
    private static final Probe probe = new Probe();

    public static void main(String[] args) {
        linesAndTabs();
        quotes();
        headings();
        underlines();
        underlinesBehindDefinitions();
        rules();
        fences();
        fencesThatGoOn();
        indentedCode();
        marks();
        marksInParagraphs();
        listsOfKinds();
        widths();
        itemsThatGoOn();
        withoutMarks();
        inAnother();
        paragraphs();
        firstAndLast();
        wrongCalls();
        probe.finish();
    }

    private static void linesAndTabs() {
        probe.outline("", "(document 0-0)");
        probe.outline("\n \n\t", "(document 0-0)");
        probe.outline("a\rb\r\nc\nd", "(document 0-3 (paragraph 0-3 'a/b/c/d'))");
        probe.outline("a\n\rb", "(document 0-2 (paragraph 0-0 'a') (paragraph 2-2 'b'))");
        probe.outline("a\tb", "(document 0-0 (paragraph 0-0 'a   b'))");
        probe.outline("abc\td", "(document 0-0 (paragraph 0-0 'abc d'))");
        probe.outline("abcd\te", "(document 0-0 (paragraph 0-0 'abcd    e'))");
        probe.outline("\ta\tb", "(document 0-0 (code 0-0 'a   b/'))");
        probe.outline("  \ta", "(document 0-0 (code 0-0 'a/'))");
        probe.outline(">\ta", "(document 0-0 (quote 0-0 (paragraph 0-0 'a')))");
        probe.outline(">\t\ta", "(document 0-0 (quote 0-0 (code 0-0 '  a/')))");
        probe.outline("-\ta", "(document 0-0 (list 0-0 - (item 0-0 w4 (paragraph 0-0 'a'))))");
        probe.outline("-\t\ta", "(document 0-0 (list 0-0 - (item 0-0 w2 (code 0-0 '  a/'))))");
        probe.outline("#\ta\t#\t", "(document 0-0 (heading 0-0 n1 'a'))");
        probe.outline("*\t*\t*", "(document 0-0 (rule 0-0))");
        probe.outline("\f", "(document 0-0 (paragraph 0-0 '\f'))");
    }

    private static void quotes() {
        probe.outline(">", "(document 0-0 (quote 0-0))");
        probe.outline("> a\n> b", "(document 0-1 (quote 0-1 (paragraph 0-1 'a/b')))");
        probe.outline("   >a\n>b", "(document 0-1 (quote 0-1 (paragraph 0-1 'a/b')))");
        probe.outline("    >a", "(document 0-0 (code 0-0 '>a/'))");
        probe.outline("> a\n\n> b", "(document 0-2 (quote 0-0 (paragraph 0-0 'a')) (quote 2-2 (paragraph 2-2 'b')))");
        probe.outline("> a\n>\n> b", "(document 0-2 (quote 0-2 (paragraph 0-0 'a') (paragraph 2-2 'b')))");
        probe.outline(">     a", "(document 0-0 (quote 0-0 (code 0-0 'a/')))");
        probe.outline(">    a", "(document 0-0 (quote 0-0 (paragraph 0-0 'a')))");
        probe.outline(">>  > a", "(document 0-0 (quote 0-0 (quote 0-0 (quote 0-0 (paragraph 0-0 'a')))))");
        probe.outline("a\n> b", "(document 0-1 (paragraph 0-0 'a') (quote 1-1 (paragraph 1-1 'b')))");
        probe.outline("> a\n    > b", "(document 0-1 (quote 0-1 (paragraph 0-1 'a/> b')))");
    }

    private static void headings() {
        probe.outline("#", "(document 0-0 (heading 0-0 n1))");
        probe.outline("# a", "(document 0-0 (heading 0-0 n1 'a'))");
        probe.outline("###### a", "(document 0-0 (heading 0-0 n6 'a'))");
        probe.outline("####### a", "(document 0-0 (paragraph 0-0 '####### a'))");
        probe.outline("#a", "(document 0-0 (paragraph 0-0 '#a'))");
        probe.outline("   #   a   ", "(document 0-0 (heading 0-0 n1 'a'))");
        probe.outline("    # a", "(document 0-0 (code 0-0 '# a/'))");
        probe.outline("a\n    # b", "(document 0-1 (paragraph 0-1 'a/# b'))");
        probe.outline("## a ##", "(document 0-0 (heading 0-0 n2 'a'))");
        probe.outline("# a ####   ", "(document 0-0 (heading 0-0 n1 'a'))");
        probe.outline("# a   #", "(document 0-0 (heading 0-0 n1 'a'))");
        probe.outline("# a#", "(document 0-0 (heading 0-0 n1 'a#'))");
        probe.outline("# a # b", "(document 0-0 (heading 0-0 n1 'a # b'))");
        probe.outline("# a \\#", "(document 0-0 (heading 0-0 n1 'a \\#'))");
        probe.outline("### ###", "(document 0-0 (heading 0-0 n3))");
        probe.outline("# ## #", "(document 0-0 (heading 0-0 n1 '##'))");
        probe.outline("## ", "(document 0-0 (heading 0-0 n2))");
        probe.outline("# a\nb", "(document 0-1 (heading 0-0 n1 'a') (paragraph 1-1 'b'))");
        probe.outline("a\n# b\nc", "(document 0-2 (paragraph 0-0 'a') (heading 1-1 n1 'b') (paragraph 2-2 'c'))");
    }

    private static void underlines() {
        probe.outline("a\n=", "(document 0-1 (heading 0-1 n1 'a'))");
        probe.outline("a\n-", "(document 0-1 (heading 0-1 n2 'a'))");
        probe.outline("a\n   ====   ", "(document 0-1 (heading 0-1 n1 'a'))");
        probe.outline("a\n    ===", "(document 0-1 (paragraph 0-1 'a/==='))");
        probe.outline("a\n== =", "(document 0-1 (paragraph 0-1 'a/== ='))");
        probe.outline("a\n=-", "(document 0-1 (paragraph 0-1 'a/=-'))");
        probe.outline("a\n---", "(document 0-1 (heading 0-1 n2 'a'))");
        probe.outline("a\n- - -", "(document 0-1 (paragraph 0-0 'a') (rule 1-1))");
        probe.outline("a  \n b  \n==", "(document 0-2 (heading 0-2 n1 'a  /b'))");
        probe.outline("===", "(document 0-0 (paragraph 0-0 '==='))");
        probe.outline("a\n\n===", "(document 0-2 (paragraph 0-0 'a') (paragraph 2-2 '==='))");
        probe.outline("> a\n===", "(document 0-1 (quote 0-1 (paragraph 0-1 'a/===')))");
        probe.outline("> a\n---", "(document 0-1 (quote 0-0 (paragraph 0-0 'a')) (rule 1-1))");
        probe.outline("> a\n> ---\nb", "(document 0-2 (quote 0-1 (heading 0-1 n2 'a')) (paragraph 2-2 'b'))");
        probe.outline("- a\n  ===", "(document 0-1 (list 0-1 - (item 0-1 w2 (heading 0-1 n1 'a'))))");
        probe.outline("- a\n---", "(document 0-1 (list 0-0 - (item 0-0 w2 (paragraph 0-0 'a'))) (rule 1-1))");
        probe.outline("a\n===\n===", "(document 0-2 (heading 0-1 n1 'a') (paragraph 2-2 '==='))");
    }

    private static void underlinesBehindDefinitions() {
        probe.outline("[a]: b\nc\n===", "(document 0-2 (heading 0-2 n1 'c'))");
        probe.outline("[a]: b\n===", "(document 0-1 (paragraph 1-1 '==='))");
        probe.outline("[a]: b\n===\n===", "(document 0-2 (heading 1-2 n1 '==='))");
        probe.outline("[a]: b\n---", "(document 0-1 (rule 1-1))");
        probe.outline("[a]: b\n--", "(document 0-1 (paragraph 1-1 '--'))");
        probe.outline("[a]: b\n-", "(document 0-1 (list 1-1 - (item 1-1 w2)))");
        probe.outline("> [a]: b\n> -", "(document 0-1 (quote 0-1 (list 1-1 - (item 1-1 w2))))");
        probe.outline("- [a]: b\n  ---", "(document 0-1 (list 0-1 - (item 0-1 w2 (rule 1-1))))");
        probe.defines("[a]: b\n===\n[a]: c\n[d]: e\n---", "'a'='b'");
    }

    private static void rules() {
        probe.outline("***", "(document 0-0 (rule 0-0))");
        probe.outline("   _ _  __   ", "(document 0-0 (rule 0-0))");
        probe.outline("    ***", "(document 0-0 (code 0-0 '***/'))");
        probe.outline("__", "(document 0-0 (paragraph 0-0 '__'))");
        probe.outline("**-", "(document 0-0 (paragraph 0-0 '**-'))");
        probe.outline("*** a", "(document 0-0 (paragraph 0-0 '*** a'))");
        probe.outline("+++", "(document 0-0 (paragraph 0-0 '+++'))");
        probe.outline("- - -", "(document 0-0 (rule 0-0))");
        probe.outline("a\n***\nb", "(document 0-2 (paragraph 0-0 'a') (rule 1-1) (paragraph 2-2 'b'))");
        probe.outline("* a\n* * *\n* b", "(document 0-2 (list 0-0 * (item 0-0 w2 (paragraph 0-0 'a'))) (rule 1-1)"
            + " (list 2-2 * (item 2-2 w2 (paragraph 2-2 'b'))))");
        probe.outline("- * * *", "(document 0-0 (list 0-0 - (item 0-0 w2 (rule 0-0))))");
    }

    private static void fences() {
        probe.outline("```", "(document 0-0 (code 0-0 `))");
        probe.outline("``", "(document 0-0 (paragraph 0-0 '``'))");
        probe.outline("~~~\na\n~~~", "(document 0-2 (code 0-2 ~ 'a/'))");
        probe.outline("~~ ~\na", "(document 0-1 (paragraph 0-1 '~~ ~/a'))");
        probe.outline("```` java x \na", "(document 0-1 (code 0-1 ` info 'java x' 'a/'))");
        probe.outline("```a`b", "(document 0-0 (paragraph 0-0 '```a`b'))");
        probe.outline("~~~ a`~~~b", "(document 0-0 (code 0-0 ~ info 'a`~~~b'))");
        probe.outline("``` ~\\&amp;", "(document 0-0 (code 0-0 ` info '~\\&amp;'))");
        probe.outline("    ```", "(document 0-0 (code 0-0 '```/'))");
        probe.outline("a\n```\nb\n```\nc", "(document 0-4 (paragraph 0-0 'a') (code 1-3 ` 'b/') (paragraph 4-4 'c'))");
        probe.outline("> ```\n> a\nb", "(document 0-2 (quote 0-1 (code 0-1 ` 'a/')) (paragraph 2-2 'b'))");
    }

    private static void fencesThatGoOn() {
        probe.outline("```\n\n  \n\n", "(document 0-3 (code 0-3 ` '/  //'))");
        probe.outline("~~~~\n~~~\n~~~~~  \na", "(document 0-3 (code 0-2 ~ '~~~/') (paragraph 3-3 'a'))");
        probe.outline("```\n~~~\n``` a\n```", "(document 0-3 (code 0-3 ` '~~~/``` a/'))");
        probe.outline("```\n   ```\na", "(document 0-2 (code 0-1 `) (paragraph 2-2 'a'))");
        probe.outline("```\n    ```\na", "(document 0-2 (code 0-2 ` '    ```/a/'))");
        probe.outline("  ```\na\n b\n  c\n   d\n```", "(document 0-5 (code 0-5 ` 'a/b/c/ d/'))");
        probe.outline("```\n> a\n# b\n- c\n[d]: e", "(document 0-4 (code 0-4 ` '> a/# b/- c/[d]: e/'))");
        probe.outline("- ```\n  a\n       \n  ```\n  b", "(document 0-4 (list 0-4 - (item 0-4 w2"
            + " (code 0-3 ` 'a//') (paragraph 4-4 'b'))))");
        probe.outline("- ```\na", "(document 0-1 (list 0-0 - (item 0-0 w2 (code 0-0 `))) (paragraph 1-1 'a'))");
        probe.outline("```\n\ta", "(document 0-1 (code 0-1 ` '    a/'))");
        probe.outline("```\n```\n```", "(document 0-2 (code 0-1 `) (code 2-2 `))");
    }

    private static void indentedCode() {
        probe.outline("    a\n      b", "(document 0-1 (code 0-1 'a/  b/'))");
        probe.outline("    a\n\n  \n      \n    b\n\n     \n", "(document 0-4 (code 0-4 'a///  /b/'))");
        probe.outline("    a\nb", "(document 0-1 (code 0-0 'a/') (paragraph 1-1 'b'))");
        probe.outline("a\n    b", "(document 0-1 (paragraph 0-1 'a/b'))");
        probe.outline("# a\n    b", "(document 0-1 (heading 0-0 n1 'a') (code 1-1 'b/'))");
        probe.outline("    \n    a\n    ", "(document 0-1 (code 1-1 'a/'))");
        probe.outline("   a", "(document 0-0 (paragraph 0-0 'a'))");
        probe.outline("    a  ", "(document 0-0 (code 0-0 'a  /'))");
        probe.outline("- a\n\n      b", "(document 0-2 (list 0-2 - loose (item 0-2 w2 (paragraph 0-0 'a') (code 2-2 'b/'))))");
        probe.outline("-     a\n\n           \n      b", "(document 0-3 (list 0-3 - (item 0-3 w2 (code 0-3 'a///b/'))))");
        probe.outline("> a\n    b", "(document 0-1 (quote 0-1 (paragraph 0-1 'a/b')))");
        probe.outline("> ***\n    b", "(document 0-1 (quote 0-0 (rule 0-0)) (code 1-1 'b/'))");
        probe.outline("-\n    a\n\n    b", "(document 0-3 (list 0-3 - loose (item 0-3 w2 (paragraph 1-1 'a') (paragraph 3-3 'b'))))");
        probe.outline("a\n>     b", "(document 0-1 (paragraph 0-0 'a') (quote 1-1 (code 1-1 'b/')))");
        probe.outline("- a\n\nb\n    c", "(document 0-3 (list 0-0 - (item 0-0 w2 (paragraph 0-0 'a'))) (paragraph 2-3 'b/c'))");
        probe.outline("-\n\n    a", "(document 0-2 (list 0-0 - (item 0-0 w2)) (code 2-2 'a/'))");
    }

    private static void marks() {
        probe.outline("-", "(document 0-0 (list 0-0 - (item 0-0 w2)))");
        probe.outline("*  ", "(document 0-0 (list 0-0 * (item 0-0 w2)))");
        probe.outline("-a", "(document 0-0 (paragraph 0-0 '-a'))");
        probe.outline("0. a", "(document 0-0 (list 0-0 . (item 0-0 w3 (paragraph 0-0 'a'))))");
        probe.outline("007) a", "(document 0-0 (list 0-0 n7 ) (item 0-0 w5 (paragraph 0-0 'a'))))");
        probe.outline("123456789. a", "(document 0-0 (list 0-0 n123456789 . (item 0-0 w11 (paragraph 0-0 'a'))))");
        probe.outline("999999999)", "(document 0-0 (list 0-0 n999999999 ) (item 0-0 w11)))");
        probe.outline("1234567890. a", "(document 0-0 (paragraph 0-0 '1234567890. a'))");
        probe.outline("1.a", "(document 0-0 (paragraph 0-0 '1.a'))");
        probe.outline("1: a", "(document 0-0 (paragraph 0-0 '1: a'))");
        probe.outline(". a", "(document 0-0 (paragraph 0-0 '. a'))");
        probe.outline("-1. a", "(document 0-0 (paragraph 0-0 '-1. a'))");
        probe.outline("    - a", "(document 0-0 (code 0-0 '- a/'))");
        probe.outline("- - a", "(document 0-0 (list 0-0 - (item 0-0 w2 (list 0-0 - (item 0-0 w2 (paragraph 0-0 'a'))))))");
        probe.outline("1. - 2) a", "(document 0-0 (list 0-0 n1 . (item 0-0 w3 (list 0-0 - (item 0-0 w2"
            + " (list 0-0 n2 ) (item 0-0 w3 (paragraph 0-0 'a'))))))))");
        probe.outline("- # a\n- ```", "(document 0-1 (list 0-1 - (item 0-0 w2 (heading 0-0 n1 'a')) (item 1-1 w2 (code 1-1 `))))");
    }

    private static void marksInParagraphs() {
        probe.outline("a\n- b", "(document 0-1 (paragraph 0-0 'a') (list 1-1 - (item 1-1 w2 (paragraph 1-1 'b'))))");
        probe.outline("a\n1. b", "(document 0-1 (paragraph 0-0 'a') (list 1-1 n1 . (item 1-1 w3 (paragraph 1-1 'b'))))");
        probe.outline("a\n01) b", "(document 0-1 (paragraph 0-0 'a') (list 1-1 n1 ) (item 1-1 w4 (paragraph 1-1 'b'))))");
        probe.outline("a\n2. b", "(document 0-1 (paragraph 0-1 'a/2. b'))");
        probe.outline("a\n0. b", "(document 0-1 (paragraph 0-1 'a/0. b'))");
        probe.outline("a\n*", "(document 0-1 (paragraph 0-1 'a/*'))");
        probe.outline("a\n+   ", "(document 0-1 (paragraph 0-1 'a/+'))");
        probe.outline("a\n1.", "(document 0-1 (paragraph 0-1 'a/1.'))");
        probe.outline("[a]: b\n2. c", "(document 0-1 (paragraph 0-1 '2. c'))");
        probe.outline("- a\n  2. b", "(document 0-1 (list 0-1 - (item 0-1 w2 (paragraph 0-1 'a/2. b'))))");
        probe.outline("> a\n2. b", "(document 0-1 (quote 0-0 (paragraph 0-0 'a')) (list 1-1 n2 . (item 1-1 w3 (paragraph 1-1 'b'))))");
        probe.outline("> a\n-", "(document 0-1 (quote 0-0 (paragraph 0-0 'a')) (list 1-1 - (item 1-1 w2)))");
        probe.outline("- a\n-", "(document 0-1 (list 0-1 - (item 0-0 w2 (paragraph 0-0 'a')) (item 1-1 w2)))");
        probe.outline("[a]: b\n- c", "(document 0-1 (list 1-1 - (item 1-1 w2 (paragraph 1-1 'c'))))");
    }

    private static void listsOfKinds() {
        probe.outline("- a\n- b", "(document 0-1 (list 0-1 - (item 0-0 w2 (paragraph 0-0 'a')) (item 1-1 w2 (paragraph 1-1 'b'))))");
        probe.outline("- a\n* b\n+ c", "(document 0-2 (list 0-0 - (item 0-0 w2 (paragraph 0-0 'a')))"
            + " (list 1-1 * (item 1-1 w2 (paragraph 1-1 'b'))) (list 2-2 + (item 2-2 w2 (paragraph 2-2 'c'))))");
        probe.outline("3. a\n1. b\n7) c", "(document 0-2 (list 0-1 n3 . (item 0-0 w3 (paragraph 0-0 'a'))"
            + " (item 1-1 w3 (paragraph 1-1 'b'))) (list 2-2 n7 ) (item 2-2 w3 (paragraph 2-2 'c'))))");
        probe.outline("- a\n\nb\n- c", "(document 0-3 (list 0-0 - (item 0-0 w2 (paragraph 0-0 'a'))) (paragraph 2-2 'b')"
            + " (list 3-3 - (item 3-3 w2 (paragraph 3-3 'c'))))");
        probe.outline("- a\n  - b\n  + c", "(document 0-2 (list 0-2 - (item 0-2 w2 (paragraph 0-0 'a')"
            + " (list 1-1 - (item 1-1 w2 (paragraph 1-1 'b'))) (list 2-2 + (item 2-2 w2 (paragraph 2-2 'c'))))))");
        probe.outline("- a\n # b\n- c", "(document 0-2 (list 0-0 - (item 0-0 w2 (paragraph 0-0 'a'))) (heading 1-1 n1 'b')"
            + " (list 2-2 - (item 2-2 w2 (paragraph 2-2 'c'))))");
        probe.outline("- a\n> b", "(document 0-1 (list 0-0 - (item 0-0 w2 (paragraph 0-0 'a'))) (quote 1-1 (paragraph 1-1 'b')))");
        probe.outline("- a\n   - b\n    - c\n     - d", "(document 0-3 (list 0-3 - (item 0-3 w2 (paragraph 0-0 'a') (list 1-3 -"
            + " (item 1-1 w3 (paragraph 1-1 'b')) (item 2-2 w4 (paragraph 2-2 'c')) (item 3-3 w5 (paragraph 3-3 'd'))))))");
    }

    private static void widths() {
        probe.outline("-    a", "(document 0-0 (list 0-0 - (item 0-0 w5 (paragraph 0-0 'a'))))");
        probe.outline("-     a", "(document 0-0 (list 0-0 - (item 0-0 w2 (code 0-0 'a/'))))");
        probe.outline("   -    a", "(document 0-0 (list 0-0 - (item 0-0 w8 (paragraph 0-0 'a'))))");
        probe.outline("  10)  a", "(document 0-0 (list 0-0 n10 ) (item 0-0 w7 (paragraph 0-0 'a'))))");
        probe.outline("-      ", "(document 0-0 (list 0-0 - (item 0-0 w2)))");
        probe.outline("   1.", "(document 0-0 (list 0-0 n1 . (item 0-0 w6)))");
        probe.outline("> -   a", "(document 0-0 (quote 0-0 (list 0-0 - (item 0-0 w4 (paragraph 0-0 'a')))))");
        probe.outline("-  a\n  b\n\n   c\n\n  d", "(document 0-5 (list 0-3 - loose (item 0-3 w3 (paragraph 0-1 'a/b')"
            + " (paragraph 3-3 'c'))) (paragraph 5-5 'd'))");
    }

    private static void itemsThatGoOn() {
        probe.outline("- a\n\n  b", "(document 0-2 (list 0-2 - loose (item 0-2 w2 (paragraph 0-0 'a') (paragraph 2-2 'b'))))");
        probe.outline("- a\n\n b", "(document 0-2 (list 0-0 - (item 0-0 w2 (paragraph 0-0 'a'))) (paragraph 2-2 'b'))");
        probe.outline("-\n  a", "(document 0-1 (list 0-1 - (item 0-1 w2 (paragraph 1-1 'a'))))");
        probe.outline("-\n\n  a", "(document 0-2 (list 0-0 - (item 0-0 w2)) (paragraph 2-2 'a'))");
        probe.outline("-\n   \n- a", "(document 0-2 (list 0-2 - loose (item 0-0 w2) (item 2-2 w2 (paragraph 2-2 'a'))))");
        probe.outline("- [a]: b\n\n  c", "(document 0-2 (list 0-2 - (item 0-2 w2 (paragraph 2-2 'c'))))");
        probe.outline("- [a]: b\n\n\n  c", "(document 0-3 (list 0-0 - (item 0-0 w2)) (paragraph 3-3 'c'))");
        probe.outline("- > a\n\n  b", "(document 0-2 (list 0-2 - loose (item 0-2 w2 (quote 0-0 (paragraph 0-0 'a')) (paragraph 2-2 'b'))))");
        probe.outline("1. a\n\n   - b\n\n     c", "(document 0-4 (list 0-4 n1 . loose (item 0-4 w3 (paragraph 0-0 'a')"
            + " (list 2-4 - loose (item 2-4 w2 (paragraph 2-2 'b') (paragraph 4-4 'c'))))))");
        probe.outline("> - a\n>\n>   b", "(document 0-2 (quote 0-2 (list 0-2 - loose (item 0-2 w2 (paragraph 0-0 'a') (paragraph 2-2 'b')))))");
        probe.outline("> - a\n\n>   b", "(document 0-2 (quote 0-0 (list 0-0 - (item 0-0 w2 (paragraph 0-0 'a')))) (quote 2-2 (paragraph 2-2 'b')))");
    }

    private static void withoutMarks() {
        probe.outline("> a\nb", "(document 0-1 (quote 0-1 (paragraph 0-1 'a/b')))");
        probe.outline(">>> a\n> b\nc", "(document 0-2 (quote 0-2 (quote 0-2 (quote 0-2 (paragraph 0-2 'a/b/c')))))");
        probe.outline("- a\nb\n- c", "(document 0-2 (list 0-2 - (item 0-1 w2 (paragraph 0-1 'a/b')) (item 2-2 w2 (paragraph 2-2 'c'))))");
        probe.outline("> - a\nb", "(document 0-1 (quote 0-1 (list 0-1 - (item 0-1 w2 (paragraph 0-1 'a/b')))))");
        probe.outline("> a\n\nb", "(document 0-2 (quote 0-0 (paragraph 0-0 'a')) (paragraph 2-2 'b'))");
        probe.outline("> # a\nb", "(document 0-1 (quote 0-0 (heading 0-0 n1 'a')) (paragraph 1-1 'b'))");
        probe.outline(">     a\nb", "(document 0-1 (quote 0-0 (code 0-0 'a/')) (paragraph 1-1 'b'))");
        probe.outline("> a\n```", "(document 0-1 (quote 0-0 (paragraph 0-0 'a')) (code 1-1 `))");
        probe.outline("> a\n      b  \n> c", "(document 0-2 (quote 0-2 (paragraph 0-2 'a/b  /c')))");
        probe.outline("> - a\n> b", "(document 0-1 (quote 0-1 (list 0-1 - (item 0-1 w2 (paragraph 0-1 'a/b')))))");
        probe.outline("- a\n> - b\nc", "(document 0-2 (list 0-0 - (item 0-0 w2 (paragraph 0-0 'a')))"
            + " (quote 1-2 (list 1-2 - (item 1-2 w2 (paragraph 1-2 'b/c')))))");
        probe.outline("> [a]:\nb", "(document 0-0 (quote 0-0))");
        probe.outline("> a\n- b\nc", "(document 0-2 (quote 0-0 (paragraph 0-0 'a')) (list 1-2 - (item 1-2 w2 (paragraph 1-2 'b/c'))))");
    }

    private static void inAnother() {
        probe.outline("- > ```\n  > a\n  b", "(document 0-2 (list 0-2 - (item 0-2 w2 (quote 0-1 (code 0-1 ` 'a/')) (paragraph 2-2 'b'))))");
        probe.outline("1. > - # a\n   >   b", "(document 0-1 (list 0-1 n1 . (item 0-1 w3 (quote 0-1 (list 0-1 -"
            + " (item 0-1 w2 (heading 0-0 n1 'a') (paragraph 1-1 'b')))))))");
        probe.outline("> a\n> > b\n> c", "(document 0-2 (quote 0-2 (paragraph 0-0 'a') (quote 1-2 (paragraph 1-2 'b/c'))))");
        probe.outline("> [a]: b\n>> c", "(document 0-1 (quote 0-1 (quote 1-1 (paragraph 1-1 'c'))))");
    }

    private static void paragraphs() {
        probe.outline("   a  \n     b  ", "(document 0-1 (paragraph 0-1 'a  /b'))");
        probe.outline("a\n\n\nb", "(document 0-3 (paragraph 0-0 'a') (paragraph 3-3 'b'))");
        probe.outline("a\0\u00ff\u007f", "(document 0-0 (paragraph 0-0 'a\0\u00ff\u007f'))");
        probe.outline("[a]: b\nc", "(document 0-1 (paragraph 0-1 'c'))");
        probe.outline("c\n[a]: b", "(document 0-1 (paragraph 0-1 'c/[a]: b'))");
        probe.outline("[a]: b\n\nc", "(document 0-2 (paragraph 2-2 'c'))");
        probe.outline("[a]: b", "(document 0-0)");
    }

    private static void firstAndLast() {
        probe.outline("\n\na\n\n", "(document 0-2 (paragraph 2-2 'a'))");
        probe.outline("- a\n\n\n", "(document 0-0 (list 0-0 - (item 0-0 w2 (paragraph 0-0 'a'))))");
        probe.outline("\n> >\n> > ", "(document 0-1 (quote 1-1 (quote 1-1)))");
        probe.outline("\n- [a]:\n  b\n", "(document 0-1 (list 1-1 - (item 1-1 w2)))");
        probe.outline("\n[a]:\nb\nc\n===", "(document 0-4 (heading 1-4 n1 'c'))");
        probe.outline("\n```\n\n", "(document 0-2 (code 1-2 ` '/'))");
    }

    private static void wrongCalls() {
        MarkBlocks x = Probe.reading("- a\n");
        int[] wrong = {-1, 4, 5, 1000000, Integer.MIN_VALUE, Integer.MAX_VALUE};
        for (int k : wrong) {
            for (int what = 0; what < 10; what++) {
                probe.due("block(" + k + ", " + what + ")", x.block(k, what), MarkBlocks.NONE);
            }
        }
        int[] wrongWhat = {-1, 10, 11, Integer.MIN_VALUE, Integer.MAX_VALUE};
        for (int what : wrongWhat) {
            for (int k = -1; k < 5; k++) {
                probe.due("block(" + k + ", " + what + ")", x.block(k, what), MarkBlocks.NONE);
            }
        }
        probe.due("block(0, 1)", x.block(0, 1), MarkBlocks.NONE);
        probe.due("block(3, 1)", x.block(3, 1), 2);
    }
}
