/** The boundaries of step 2 of a line, BEGINNINGS, a test for each sentence that names one. */
public final class BeginningsBoundsTest {
    private static final Probe probe = new Probe();

    public static void main(String[] args) {
        notInCode();
        quote();
        headingIndent();
        headingLevel();
        headingBehind();
        headingText();
        headingLastRow();
        fenceIndent();
        fenceNumber();
        fenceFurtherBehind();
        fenceInfo();
        underlineIndent();
        underlineParagraph();
        underlineRow();
        underlineBehind();
        underlineLeft();
        underlineNothingLeft();
        ruleIndent();
        ruleNumber();
        ruleBetween();
        markIndent();
        markSigns();
        markDigits();
        markBehind();
        markBlankInParagraph();
        markNumberInParagraph();
        markKind();
        markNumber();
        markWidth();
        markNothingBehind();
        markPlace();
        codeIndent();
        codeBlank();
        codeTip();
        codeBlockAtHand();
        lookedForAgain();
        probe.finish();
    }

    private static void paragraph(String text) {
        MarkBlocks x = Probe.reading(text);
        probe.due("kind of " + Probe.quoted(text), x.block(1, 0), 4);
        probe.due("blocks of " + Probe.quoted(text), x.about(1), 2);
    }

    /** The first block is of that kind, and nothing stands behind what it holds. */
    private static void begins(String text, int kind) {
        MarkBlocks x = Probe.reading(text);
        probe.due("kind of " + Probe.quoted(text), x.block(1, 0), kind);
        probe.due("LAST of " + Probe.quoted(text), x.block(1, 7), x.block(0, 7));
    }

    private static void notInCode() {
        probe.sentence("BEGINNINGS, unless a CODE is at hand.");
        probe.outline("~~~\n> # - 1. ***\n    a", "(document 0-2 (code 0-2 ~ '> # - 1. ***/    a/'))");
        probe.outline("    a\n    > b\n    # c", "(document 0-2 (code 0-2 'a/> b/# c/'))");
        probe.outline("    a\n   > b", "(document 0-1 (code 0-0 'a/') (quote 1-1 (paragraph 1-1 'b')))");
        probe.outline("> ~~~\n# a", "(document 0-1 (quote 0-0 (code 0-0 ~)) (heading 1-1 n1 'a'))");
    }

    private static void quote() {
        probe.sentence("(a) I below 4, then >: QUOTE; the place as above; it is at hand.");
        probe.outline(">a", "(document 0-0 (quote 0-0 (paragraph 0-0 'a')))");
        probe.outline("   > a", "(document 0-0 (quote 0-0 (paragraph 0-0 'a')))");
        probe.outline("    > a", "(document 0-0 (code 0-0 '> a/'))");
        probe.outline(">    a", "(document 0-0 (quote 0-0 (paragraph 0-0 'a')))");
        probe.outline(">     a", "(document 0-0 (quote 0-0 (code 0-0 'a/')))");
        probe.outline(">", "(document 0-0 (quote 0-0))");
        probe.outline("> ", "(document 0-0 (quote 0-0))");
        probe.outline(">    >", "(document 0-0 (quote 0-0 (quote 0-0)))");
        probe.outline(">     >", "(document 0-0 (quote 0-0 (code 0-0 '>/')))");
    }

    private static void headingIndent() {
        probe.sentence("(b) I below 4, then 1 .. 6 of #");
        probe.outline("# a", "(document 0-0 (heading 0-0 n1 'a'))");
        probe.outline("   # a", "(document 0-0 (heading 0-0 n1 'a'))");
        probe.outline("    # a", "(document 0-0 (code 0-0 '# a/'))");
        probe.outline("b\n   # a", "(document 0-1 (paragraph 0-0 'b') (heading 1-1 n1 'a'))");
        probe.outline("b\n    # a", "(document 0-1 (paragraph 0-1 'b/# a'))");
    }

    private static void headingLevel() {
        probe.sentence("1 .. 6 of #");
        for (int level = 1; level <= 6; level++) {
            String mark = "#".repeat(level);
            probe.outline(mark + " a", "(document 0-0 (heading 0-0 n" + level + " 'a'))");
            probe.outline(mark, "(document 0-0 (heading 0-0 n" + level + "))");
        }
        paragraph("####### a");
        paragraph("#######");
        paragraph("#".repeat(3000));
    }

    private static void headingBehind() {
        probe.sentence("with a space or the line's end behind: HEADING of that level");
        probe.outline("#", "(document 0-0 (heading 0-0 n1))");
        probe.outline("# ", "(document 0-0 (heading 0-0 n1))");
        probe.outline("#\n#", "(document 0-1 (heading 0-0 n1) (heading 1-1 n1))");
        probe.outline("#\ta", "(document 0-0 (heading 0-0 n1 'a'))");
        paragraph("#a");
        paragraph("######a");
        paragraph("#\f");
        paragraph("#\u00a0a");
        paragraph("\\# a");
    }

    private static void headingText() {
        probe.sentence("its text is what follows, without spaces at both ends");
        probe.outline("#     a  b     ", "(document 0-0 (heading 0-0 n1 'a  b'))");
        probe.outline("# a\f ", "(document 0-0 (heading 0-0 n1 'a\f'))");
        probe.outline("#      ", "(document 0-0 (heading 0-0 n1))");
        probe.outline("# .", "(document 0-0 (heading 0-0 n1 '.'))");
    }

    private static void headingLastRow() {
        probe.sentence("if that ends with a row of # that stands at its beginning or behind a space, without this"
            + " and the spaces ahead of it");
        probe.outline("# #", "(document 0-0 (heading 0-0 n1))");
        probe.outline("# ###########", "(document 0-0 (heading 0-0 n1))");
        probe.outline("# a #", "(document 0-0 (heading 0-0 n1 'a'))");
        probe.outline("# a    ###   ", "(document 0-0 (heading 0-0 n1 'a'))");
        probe.outline("# a#", "(document 0-0 (heading 0-0 n1 'a#'))");
        probe.outline("# a # #", "(document 0-0 (heading 0-0 n1 'a #'))");
        probe.outline("# # #", "(document 0-0 (heading 0-0 n1 '#'))");
        probe.outline("# a #b", "(document 0-0 (heading 0-0 n1 'a #b'))");
        probe.outline("# a \\##", "(document 0-0 (heading 0-0 n1 'a \\##'))");
        probe.outline("# a\f#", "(document 0-0 (heading 0-0 n1 'a\f#'))");
        probe.outline("# a\t#", "(document 0-0 (heading 0-0 n1 'a'))");
    }

    private static void fenceIndent() {
        probe.sentence("(c) I below 4, then three or more of `");
        probe.outline("   ```", "(document 0-0 (code 0-0 `))");
        probe.outline("    ```", "(document 0-0 (code 0-0 '```/'))");
        probe.outline("   ~~~", "(document 0-0 (code 0-0 ~))");
        probe.outline("    ~~~", "(document 0-0 (code 0-0 '~~~/'))");
        probe.outline("b\n   ~~~", "(document 0-1 (paragraph 0-0 'b') (code 1-1 ~))");
        probe.outline("b\n    ~~~", "(document 0-1 (paragraph 0-1 'b/~~~'))");
    }

    private static void fenceNumber() {
        probe.sentence("three or more of ~");
        probe.outline("~~~", "(document 0-0 (code 0-0 ~))");
        probe.outline("```", "(document 0-0 (code 0-0 `))");
        probe.outline("~".repeat(3000), "(document 0-0 (code 0-0 ~))");
        probe.outline("`".repeat(3000), "(document 0-0 (code 0-0 `))");
        paragraph("~~");
        paragraph("``");
        paragraph("~~`");
        paragraph("``~");
        paragraph("~~ ~");
    }

    private static void fenceFurtherBehind() {
        probe.sentence("with none of them further behind in the line");
        paragraph("``` `");
        paragraph("```a`");
        paragraph("````a ```");
        probe.outline("``` ~~~", "(document 0-0 (code 0-0 ` info '~~~'))");
        probe.outline("~~~ ```", "(document 0-0 (code 0-0 ~ info '```'))");
        probe.outline("~~~ a ~~~", "(document 0-0 (code 0-0 ~ info 'a ~~~'))");
        probe.outline("``` a\n`", "(document 0-1 (code 0-1 ` info 'a' '`/'))");
    }

    private static void fenceInfo() {
        probe.sentence("its INFO is what follows, without spaces at both ends");
        probe.outline("~~~a", "(document 0-0 (code 0-0 ~ info 'a'))");
        probe.outline("~~~    a  b   ", "(document 0-0 (code 0-0 ~ info 'a  b'))");
        probe.outline("~~~    ", "(document 0-0 (code 0-0 ~))");
        probe.outline("~~~\t\\a\t", "(document 0-0 (code 0-0 ~ info '\\a'))");
        MarkBlocks x = Probe.reading("~~~" + "a".repeat(2997));
        probe.due("block(1, 5) of the longest INFO", x.block(1, 5), 2997);
    }

    private static void underlineIndent() {
        probe.sentence("(d) I below 4, a PARAGRAPH is at hand");
        probe.outline("a\n   =", "(document 0-1 (heading 0-1 n1 'a'))");
        probe.outline("a\n    =", "(document 0-1 (paragraph 0-1 'a/='))");
        probe.outline("a\n   -", "(document 0-1 (heading 0-1 n2 'a'))");
        probe.outline("a\n    -", "(document 0-1 (paragraph 0-1 'a/-'))");
    }

    private static void underlineParagraph() {
        probe.sentence("a PARAGRAPH is at hand, and from there on a row of = alone, or of - alone");
        paragraph("=");
        paragraph("--");
        probe.outline("# a\n=", "(document 0-1 (heading 0-0 n1 'a') (paragraph 1-1 '='))");
        probe.outline("a\n\n=", "(document 0-2 (paragraph 0-0 'a') (paragraph 2-2 '='))");
        probe.outline("> a\n=", "(document 0-1 (quote 0-1 (paragraph 0-1 'a/=')))");
        probe.outline("> a\n> =", "(document 0-1 (quote 0-1 (heading 0-1 n1 'a')))");
        probe.outline("- a\n =", "(document 0-1 (list 0-1 - (item 0-1 w2 (paragraph 0-1 'a/='))))");
        probe.outline("- a\n  =", "(document 0-1 (list 0-1 - (item 0-1 w2 (heading 0-1 n1 'a'))))");
        probe.outline("> a\n> > -", "(document 0-1 (quote 0-1 (paragraph 0-0 'a') (quote 1-1 (list 1-1 - (item 1-1 w2)))))");
    }

    private static void underlineRow() {
        probe.sentence("a row of = alone, or of - alone, one or more");
        int[] numbers = {1, 2, 3, 2900};
        for (int n : numbers) {
            probe.outline("a\n" + "=".repeat(n), "(document 0-1 (heading 0-1 n1 'a'))");
            probe.outline("a\n" + "-".repeat(n), "(document 0-1 (heading 0-1 n2 'a'))");
        }
        probe.outline("a\n", "(document 0-0 (paragraph 0-0 'a'))");
        paragraph("a\n=-");
        paragraph("a\n-=");
        paragraph("a\n== =");
        probe.outline("a\n-- -", "(document 0-1 (paragraph 0-0 'a') (rule 1-1))");
        paragraph("a\n-- =");
        paragraph("a\n_");
        paragraph("a\n*");
    }

    private static void underlineBehind() {
        probe.sentence("with spaces alone behind");
        probe.outline("a\n=  \t", "(document 0-1 (heading 0-1 n1 'a'))");
        probe.outline("a\n-  ", "(document 0-1 (heading 0-1 n2 'a'))");
        paragraph("a\n= .");
        paragraph("a\n--.");
        paragraph("a\n=\f");
    }

    private static void underlineLeft() {
        probe.sentence("if something is left it becomes a HEADING of level 1 (=) or 2 (-), with that without WHITE at its"
            + " end, and the line is done");
        probe.outline("[a]: b\n.\n=", "(document 0-2 (heading 0-2 n1 '.'))");
        probe.outline("[a]: b c\n-", "(document 0-1 (heading 0-1 n2 '[a]: b c'))");
        probe.outline("a  \nb   \n=", "(document 0-2 (heading 0-2 n1 'a  /b'))");
        probe.outline("a\f\n=", "(document 0-1 (heading 0-1 n1 'a\f'))");
    }

    private static void underlineNothingLeft() {
        probe.sentence("else the paragraph goes away, what held it is at hand, and the line is looked at further by (e)"
            + " and on");
        probe.outline("[a]: b\n=", "(document 0-1 (paragraph 1-1 '='))");
        probe.outline("[a]: b\n-", "(document 0-1 (list 1-1 - (item 1-1 w2)))");
        probe.outline("[a]: b\n--", "(document 0-1 (paragraph 1-1 '--'))");
        probe.outline("[a]: b\n---", "(document 0-1 (rule 1-1))");
        probe.outline("> [a]: b\n> =", "(document 0-1 (quote 0-1 (paragraph 1-1 '=')))");
        probe.outline("- [a]: b\n  ---", "(document 0-1 (list 0-1 - (item 0-1 w2 (rule 1-1))))");
        probe.defines("[a]: b\n=", "'a'='b'");
    }

    private static void ruleIndent() {
        probe.sentence("(e) I below 4, and from there on three or more of one of * - _");
        String[] rules = {"***", "---", "___"};
        for (String rule : rules) {
            probe.outline("   " + rule, "(document 0-0 (rule 0-0))");
            probe.outline("    " + rule, "(document 0-0 (code 0-0 '" + rule + "/'))");
            probe.outline("a\n    " + rule, "(document 0-1 (paragraph 0-1 'a/" + rule + "'))");
        }
        probe.outline("a\n   ***", "(document 0-1 (paragraph 0-0 'a') (rule 1-1))");
        probe.outline("a\n   ___", "(document 0-1 (paragraph 0-0 'a') (rule 1-1))");
    }

    private static void ruleNumber() {
        probe.sentence("three or more of one of * - _");
        String[] signs = {"*", "-", "_"};
        for (String sign : signs) {
            probe.outline(sign.repeat(3), "(document 0-0 (rule 0-0))");
            probe.outline(sign.repeat(4), "(document 0-0 (rule 0-0))");
            probe.outline(sign.repeat(3000), "(document 0-0 (rule 0-0))");
            paragraph(sign.repeat(2));
        }
        paragraph("_");
        paragraph("_ _");
        begins("* *", 2);
        paragraph("+++");
        paragraph("===");
    }

    private static void ruleBetween() {
        probe.sentence("with spaces alone between and behind: RULE.");
        probe.outline("* *\t*  ", "(document 0-0 (rule 0-0))");
        probe.outline("_" + " ".repeat(50) + "__", "(document 0-0 (rule 0-0))");
        paragraph("__-");
        paragraph("*** .");
        paragraph("__._");
        paragraph("--*");
        begins("- - *", 2);
    }

    private static void markIndent() {
        probe.sentence("(f) I below 4, then a MARK");
        probe.outline("   - a", "(document 0-0 (list 0-0 - (item 0-0 w5 (paragraph 0-0 'a'))))");
        probe.outline("    - a", "(document 0-0 (code 0-0 '- a/'))");
        probe.outline("   1. a", "(document 0-0 (list 0-0 n1 . (item 0-0 w6 (paragraph 0-0 'a'))))");
        probe.outline("    1. a", "(document 0-0 (code 0-0 '1. a/'))");
        probe.outline("b\n    - a", "(document 0-1 (paragraph 0-1 'b/- a'))");
    }

    private static void markSigns() {
        probe.sentence("one of * + -, or 1 .. 9 digits and . or )");
        String digitsBehind = ".)";
        for (int c = 33; c <= 255; c++) {
            String sign = String.valueOf((char) c);
            if ("*+-".contains(sign)) {
                probe.outline(sign + " a", "(document 0-0 (list 0-0 " + sign + " (item 0-0 w2 (paragraph 0-0 'a'))))");
            } else if (!"#>".contains(sign)) {
                paragraph(sign + " a");
            }
            if (digitsBehind.contains(sign)) {
                probe.outline("5" + sign + " a", "(document 0-0 (list 0-0 n5 " + sign + " (item 0-0 w3 (paragraph 0-0 'a'))))");
            } else {
                paragraph("5" + sign + " a");
            }
        }
    }

    private static void markDigits() {
        probe.sentence("1 .. 9 digits");
        paragraph(". a");
        paragraph(") a");
        probe.outline("0) a", "(document 0-0 (list 0-0 ) (item 0-0 w3 (paragraph 0-0 'a'))))");
        probe.outline("9. a", "(document 0-0 (list 0-0 n9 . (item 0-0 w3 (paragraph 0-0 'a'))))");
        probe.outline("000000000. a", "(document 0-0 (list 0-0 . (item 0-0 w11 (paragraph 0-0 'a'))))");
        probe.outline("000000007. a", "(document 0-0 (list 0-0 n7 . (item 0-0 w11 (paragraph 0-0 'a'))))");
        probe.outline("999999999. a", "(document 0-0 (list 0-0 n999999999 . (item 0-0 w11 (paragraph 0-0 'a'))))");
        paragraph("0000000000. a");
        paragraph("1000000000) a");
        paragraph("9999999999. a");
        paragraph("1234567890123. a");
        paragraph("/. a");
        paragraph(":. a");
        paragraph("1a. a");
    }

    private static void markBehind() {
        probe.sentence("behind it a space or the line's end");
        String[] marks = {"-", "+", "*", "1.", "1)", "123456789."};
        for (String mark : marks) {
            begins(mark, 2);
            begins(mark + " ", 2);
            begins(mark + "\ta", 2);
            paragraph(mark + "a");
            paragraph(mark + "\f");
            paragraph(mark + "0 ");
        }
    }

    private static void markBlankInParagraph() {
        probe.sentence("if a PARAGRAPH is at hand: the rest behind the mark is not blank");
        String[] marks = {"+", "*", "1.", "1)"};
        for (String mark : marks) {
            paragraph("a\n" + mark);
            paragraph("a\n" + mark + "    ");
            probe.due("blocks of a, " + mark, Probe.reading("a\n" + mark + " .").about(1), 5);
            probe.due("blocks of #, " + mark, Probe.reading("#\n" + mark).about(1), 4);
        }
        probe.outline("- a\n-", "(document 0-1 (list 0-1 - (item 0-0 w2 (paragraph 0-0 'a')) (item 1-1 w2)))");
        probe.outline("- a\n  +", "(document 0-1 (list 0-1 - (item 0-1 w2 (paragraph 0-1 'a/+'))))");
        probe.outline("> a\n+", "(document 0-1 (quote 0-0 (paragraph 0-0 'a')) (list 1-1 + (item 1-1 w2)))");
    }

    private static void markNumberInParagraph() {
        probe.sentence("and digits tell the number 1");
        probe.due("1.", Probe.reading("a\n1. b").about(1), 5);
        probe.due("000000001)", Probe.reading("a\n000000001) b").about(1), 5);
        paragraph("a\n0. b");
        paragraph("a\n2. b");
        paragraph("a\n10. b");
        paragraph("a\n11) b");
        paragraph("a\n0000000001. b");
        probe.outline("1. a\n2. b", "(document 0-1 (list 0-1 n1 . (item 0-0 w3 (paragraph 0-0 'a')) (item 1-1 w3 (paragraph 1-1 'b'))))");
        probe.outline("1. a\n   2. b", "(document 0-1 (list 0-1 n1 . (item 0-1 w3 (paragraph 0-1 'a/2. b'))))");
        probe.outline("# a\n2. b", "(document 0-1 (heading 0-0 n1 'a') (list 1-1 n2 . (item 1-1 w3 (paragraph 1-1 'b'))))");
    }

    private static void markKind() {
        probe.sentence("in the LIST at hand if that is OF ITS KIND (its sign, or that behind the digits), else in a new LIST");
        String[] marks = {"-", "+", "*", "1.", "1)"};
        for (String one : marks) {
            for (String other : marks) {
                MarkBlocks x = Probe.reading(one + " # a\n" + other + " # b");
                probe.due("blocks of " + one + " and " + other, x.about(1), one.equals(other) ? 6 : 7);
            }
        }
        probe.due("digits do not tell the kind", Probe.reading("1. # a\n22. # b\n0. # c").about(1), 8);
        probe.due("a list that is closed", Probe.reading("- # a\n***\n- # b").about(1), 8);
    }

    private static void markNumber() {
        probe.sentence("a new LIST of its kind with that number (0 without digits)");
        MarkBlocks x = Probe.reading("8) # a\n9) # b\n* # c");
        probe.due("number of 8)", x.block(1, 2), 8);
        probe.due("number of *", x.block(6, 2), 0);
        probe.due("sign of 8)", x.block(1, 9), (int) ')');
        probe.due("sign of *", x.block(6, 9), (int) '*');
        probe.due("number of an ITEM", x.block(2, 2), 0);
        probe.due("number of 0.", Probe.reading("0. a").block(1, 2), 0);
        probe.due("number of 999999999.", Probe.reading("999999999.").block(1, 2), 999999999);
    }

    private static void markWidth() {
        probe.sentence("its WIDTH is I, the mark's length and n, if n is 1 .. 4 and something stands behind them; else I,"
            + " the length and 1");
        String[] marks = {"-", "1.", "123456789)"};
        for (String mark : marks) {
            for (int indent = 0; indent < 4; indent++) {
                for (int n = 1; n <= 6; n++) {
                    MarkBlocks x = Probe.reading(" ".repeat(indent) + mark + " ".repeat(n) + "a");
                    int want = indent + mark.length() + (n <= 4 ? n : 1);
                    probe.due("WIDTH of " + mark + " with I " + indent + ", n " + n, x.block(2, 8), want);
                    probe.due("kind in " + mark + " with I " + indent + ", n " + n, x.block(3, 0), n <= 4 ? 4 : 7);
                }
            }
        }
        probe.outline("-     a", "(document 0-0 (list 0-0 - (item 0-0 w2 (code 0-0 'a/'))))");
        probe.outline("-      a", "(document 0-0 (list 0-0 - (item 0-0 w2 (code 0-0 ' a/'))))");
    }

    private static void markNothingBehind() {
        probe.sentence("and something stands behind them");
        for (int n = 0; n <= 6; n++) {
            probe.due("WIDTH of - and " + n + " spaces", Probe.reading("-" + " ".repeat(n)).block(2, 8), 2);
            probe.due("WIDTH of 10) and " + n + " spaces", Probe.reading("  10)" + " ".repeat(n)).block(2, 8), 6);
        }
    }

    private static void markPlace() {
        probe.sentence("The place is behind I, the mark, and these (at the line's end at most). It is at hand.");
        probe.outline("-", "(document 0-0 (list 0-0 - (item 0-0 w2)))");
        probe.outline("-\n-", "(document 0-1 (list 0-1 - (item 0-0 w2) (item 1-1 w2)))");
        probe.outline("  -  a", "(document 0-0 (list 0-0 - (item 0-0 w5 (paragraph 0-0 'a'))))");
        probe.outline("-     ~~~\n      b", "(document 0-1 (list 0-1 - (item 0-1 w2 (code 0-1 '~~~/b/'))))");
        probe.outline("-    ~~~\n     b", "(document 0-1 (list 0-1 - (item 0-1 w5 (code 0-1 ~ 'b/'))))");
        probe.outline("- -", "(document 0-0 (list 0-0 - (item 0-0 w2 (list 0-0 - (item 0-0 w2)))))");
    }

    private static void codeIndent() {
        probe.sentence("(g) I above 3");
        probe.outline("   a", "(document 0-0 (paragraph 0-0 'a'))");
        probe.outline("    a", "(document 0-0 (code 0-0 'a/'))");
        probe.outline("     a", "(document 0-0 (code 0-0 ' a/'))");
        probe.outline(">    a", "(document 0-0 (quote 0-0 (paragraph 0-0 'a')))");
        probe.outline(">     a", "(document 0-0 (quote 0-0 (code 0-0 'a/')))");
    }

    private static void codeBlank() {
        probe.sentence("the rest is not blank");
        probe.outline("    ", "(document 0-0)");
        probe.outline("         ", "(document 0-0)");
        probe.outline("    .", "(document 0-0 (code 0-0 './'))");
        probe.outline(">      ", "(document 0-0 (quote 0-0))");
        probe.outline("-      ", "(document 0-0 (list 0-0 - (item 0-0 w2)))");
    }

    private static void codeTip() {
        probe.sentence("the TIP (as it was ahead of this line's beginnings, if none has begun in it");
        probe.outline("a\n    b", "(document 0-1 (paragraph 0-1 'a/b'))");
        probe.outline("# a\n    b", "(document 0-1 (heading 0-0 n1 'a') (code 1-1 'b/'))");
        probe.outline("***\n    b", "(document 0-1 (rule 0-0) (code 1-1 'b/'))");
        probe.outline("a\n\n    b", "(document 0-2 (paragraph 0-0 'a') (code 2-2 'b/'))");
        probe.outline(">>> a\n    b", "(document 0-1 (quote 0-1 (quote 0-1 (quote 0-1 (paragraph 0-1 'a/b')))))");
        probe.outline("> # a\n    b", "(document 0-1 (quote 0-0 (heading 0-0 n1 'a')) (code 1-1 'b/'))");
        probe.outline("> a\n>     b", "(document 0-1 (quote 0-1 (paragraph 0-1 'a/b')))");
        probe.outline(">\n    b", "(document 0-1 (quote 0-0) (code 1-1 'b/'))");
        probe.outline("-\n    b", "(document 0-1 (list 0-1 - (item 0-1 w2 (paragraph 1-1 'b'))))");
        probe.outline("-\n\n    b", "(document 0-2 (list 0-0 - (item 0-0 w2)) (code 2-2 'b/'))");
    }

    private static void codeBlockAtHand() {
        probe.sentence("else the block at hand) is not a PARAGRAPH: CODE without a fence: the place is 4 further; then 3.");
        probe.outline("a\n>     b", "(document 0-1 (paragraph 0-0 'a') (quote 1-1 (code 1-1 'b/')))");
        probe.outline("a\n-     b", "(document 0-1 (paragraph 0-0 'a') (list 1-1 - (item 1-1 w2 (code 1-1 'b/'))))");
        probe.outline("> a\n> >      b", "(document 0-1 (quote 0-1 (paragraph 0-0 'a') (quote 1-1 (code 1-1 ' b/'))))");
        probe.outline("> a\n-      b", "(document 0-1 (quote 0-0 (paragraph 0-0 'a')) (list 1-1 - (item 1-1 w2 (code 1-1 ' b/'))))");
    }

    private static void lookedForAgain() {
        probe.sentence("Behind (a) and (f) it is looked for beginnings again.");
        probe.outline("> # a", "(document 0-0 (quote 0-0 (heading 0-0 n1 'a')))");
        probe.outline("> ***", "(document 0-0 (quote 0-0 (rule 0-0)))");
        probe.outline("- ***", "(document 0-0 (list 0-0 - (item 0-0 w2 (rule 0-0))))");
        probe.outline("1. ~~~ a", "(document 0-0 (list 0-0 n1 . (item 0-0 w3 (code 0-0 ~ info 'a'))))");
        probe.outline("- > 1. - a", "(document 0-0 (list 0-0 - (item 0-0 w2 (quote 0-0 (list 0-0 n1 . (item 0-0 w3"
            + " (list 0-0 - (item 0-0 w2 (paragraph 0-0 'a')))))))))");
        probe.outline("# > a", "(document 0-0 (heading 0-0 n1 '> a'))");
    }
}
