/** The boundaries of the part DEFINITIONS, a test for each sentence that names one. */
public final class DefinitionsBoundsTest {
    private static final Probe probe = new Probe();

    public static void main(String[] args) {
        fromBeginning();
        asLongAsOneStandsThere();
        parts();
        spacesAloneBehindTarget();
        gapAheadOfTitle();
        spacesAloneBehindTitle();
        withTitleIfItCanBe();
        gap();
        whatWasTakenGoes();
        labelLength();
        labelSigns();
        labelEscapes();
        labelBackslashesAreTwo();
        labelNotAllWhite();
        anglesSigns();
        anglesEscapes();
        anglesEnds();
        rowSigns();
        rowFirst();
        rowEnds();
        rowParentheses();
        rowEscapes();
        titleSigns();
        titleEscapes();
        titleEnds();
        labelIsNotUnescaped();
        unescapedSignsAround();
        normalEnds();
        normalRows();
        normalLetters();
        firstCounts();
        probe.finish();
    }

    private static String sign(int c) {
        return String.valueOf((char) c);
    }

    private static boolean isWhite(int c) {
        return c == 9 || c == 10 || c == 13 || c == 32;
    }

    private static void fromBeginning() {
        probe.sentence("DEFINITIONS are taken from the beginning of a paragraph's text");
        probe.left("[a]: b\nc", "'a'='b'", "c");
        probe.definesNone(".[a]: b");
        probe.definesNone(".\n[a]: b");
        probe.defines("   [a]: b", "'a'='b'");
        probe.outline("    [a]: b", "(document 0-0 (code 0-0 '[a]: b/'))");
        probe.defines("# [a]: b", "");
        probe.defines("> [a]: b\n# c\n- [d]: e", "'a'='b' 'd'='e'");
    }

    private static void asLongAsOneStandsThere() {
        probe.sentence("as long as one stands there");
        probe.left("[a]: b\n[c]: d\n[e]: f\n.", "'a'='b' 'c'='d' 'e'='f'", ".");
        probe.left("[a]: b\n.\n[c]: d", "'a'='b'", ".\n[c]: d");
        probe.left("[a]: b\n[c]:d e\n[f]: g", "'a'='b'", "[c]:d e\n[f]: g");
        MarkBlocks x = Probe.reading("[a]:b\n".repeat(500));
        probe.due("blocks of 500 definitions of one label", x.about(1), 1);
        probe.due("definitions() of them", x.definitions(), 1);
        StringBuilder many = new StringBuilder();
        for (int i = 0; i < 375; i++) {
            many.append('[').append(100 + i).append("]:b\n");
        }
        x = Probe.reading(many.toString());
        probe.due("definitions() of 375 labels", x.definitions(), 375);
        probe.due("blocks of 375 labels", x.about(1), 1);
    }

    private static void parts() {
        probe.sentence("a LABEL, :, GAP, a TARGET");
        probe.defines("[a]:b", "'a'='b'");
        probe.definesNone("[a] :b");
        probe.definesNone("[a]\n:b");
        probe.definesNone("[a]b");
        probe.definesNone("a]:b");
        probe.definesNone("[a:b");
        probe.definesNone("[a]:");
        probe.definesNone("[a]");
        probe.definesNone("[");
        probe.definesNone("[a]::\u007f");
        probe.defines("[a]::", "'a'=':'");
    }

    private static void spacesAloneBehindTarget() {
        probe.sentence("and then either spaces alone up to 10 or the end");
        probe.left("[a]: b\n.", "'a'='b'", ".");
        probe.left("[a]: b     \n.", "'a'='b'", ".");
        probe.defines("[a]: b", "'a'='b'");
        probe.defines("[a]: b     ", "'a'='b'");
        probe.defines("[a]: <b>   ", "'a'='b'");
        probe.definesNone("[a]: b .");
        probe.definesNone("[a]: b \f");
        probe.definesNone("[a]: <b>.");
        probe.definesNone("[a]: <b> .");
    }

    private static void gapAheadOfTitle() {
        probe.sentence("or a GAP of at least one character, a TITLE");
        probe.defines("[a]: <b> 'c'", "'a'='b','c'");
        probe.defines("[a]: <b>\n'c'", "'a'='b','c'");
        probe.definesNone("[a]: <b>'c'");
        probe.definesNone("[a]: <b>\"c\"");
        probe.definesNone("[a]: <b>(c)");
        probe.defines("[a]: b(c)", "'a'='b(c)'");
        probe.defines("[a]: b'c'", "'a'='b'c''");
    }

    private static void spacesAloneBehindTitle() {
        probe.sentence("a TITLE, and spaces alone up to 10 or the end");
        probe.defines("[a]: b 'c'", "'a'='b','c'");
        probe.defines("[a]: b 'c'     ", "'a'='b','c'");
        probe.left("[a]: b 'c'\n.", "'a'='b','c'", ".");
        probe.left("[a]: b 'c'   \n.", "'a'='b','c'", ".");
        probe.definesNone("[a]: b 'c'.");
        probe.definesNone("[a]: b 'c' .");
        probe.definesNone("[a]: b 'c' 'd'");
        probe.definesNone("[a]: b 'c'\f");
    }

    private static void withTitleIfItCanBe() {
        probe.sentence("(this one, if it can be)");
        probe.defines("[a]: b\n'c'", "'a'='b','c'");
        probe.left("[a]: b\n'c' .", "'a'='b'", "'c' .");
        probe.left("[a]: b\n'c", "'a'='b'", "'c");
        probe.left("[a]: b\n'c\nd' e", "'a'='b'", "'c\nd' e");
        probe.defines("[a]: b\n'c\nd'", "'a'='b','c/d'");
        probe.left("[a]: b 'c'\n'd'", "'a'='b','c'", "'d'");
        probe.left("[a]: b\n(c(d))", "'a'='b'", "(c(d))");
        probe.defines("[a]: b\n[c]: d\n'e'", "'a'='b' 'c'='d','e'");
        probe.left("[a]: b 'c'\n[d]: e\n'f' g", "'a'='b','c' 'd'='e'", "'f' g");
    }

    private static void gap() {
        probe.sentence("GAP: spaces, perhaps one 10, spaces.");
        String[] gaps = {" ", "      ", "\n", "   \n", "\n   ", "   \n   ", "\t"};
        for (String gap : gaps) {
            probe.defines("[a]:" + gap + "b", "'a'='b'");
            probe.defines("[a]: b" + gap + "'c'", "'a'='b','c'");
            probe.defines("[a]:" + gap + "<b>" + gap + "(c)", "'a'='b','c'");
        }
        probe.defines("[a]:b", "'a'='b'");
        probe.outline("[a]:\n\nb", "(document 0-2 (paragraph 0-0 '[a]:') (paragraph 2-2 'b'))");
        probe.left("[a]: b\n\n'c'", "'a'='b'", "'c'");
        probe.definesNone("[a]:\fb");
        probe.definesNone("[a]: b\f'c'");
    }

    private static void whatWasTakenGoes() {
        probe.sentence("What was taken goes, with the 10 behind.");
        probe.left("[a]: b\n.", "'a'='b'", ".");
        probe.left("[a]: b 'c'   \n.\n.", "'a'='b','c'", ".\n.");
        probe.outline("[a]: b\n[c]: d", "(document 0-0)");
        probe.left("[a]: b\n[a]: c\n.", "'a'='b'", ".");
    }

    private static void labelLength() {
        probe.sentence("LABEL: [, 1 .. 100 characters");
        int[] lengths = {1, 2, 99, 100};
        for (int n : lengths) {
            probe.defines("[" + "a".repeat(n) + "]: b", "'" + "a".repeat(n) + "'='b'");
        }
        probe.definesNone("[]: b");
        probe.definesNone("[" + "a".repeat(101) + "]: b");
        probe.definesNone("[" + "a".repeat(2000) + "]: b");
        probe.defines("[" + " ".repeat(99) + "a]: b", "'a'='b'");
        probe.definesNone("[" + " ".repeat(100) + "a]: b");
        probe.defines("[" + "\\]".repeat(50) + "]: b", "'" + "\\]".repeat(50) + "'='b'");
        probe.definesNone("[a" + "\\]".repeat(50) + "]: b");
        probe.defines("[" + "a\n".repeat(49) + "bc]: d", "'" + "a ".repeat(49) + "bc'='d'");
        probe.definesNone("[" + "a\n".repeat(50) + "b]: d");
    }

    private static void labelSigns() {
        probe.sentence("but [ and ] only with \\ just ahead");
        for (int c = 0; c <= 255; c++) {
            boolean fits = c != '[' && c != ']' && c != '\\' && !isWhite(c);
            String normal = c >= 'A' && c <= 'Z' ? sign(c + 32) : sign(c);
            probe.defines("[" + sign(c) + "]: u", fits ? "'" + normal + "'='u'" : "");
        }
        probe.definesNone("[a[]: b");
        probe.definesNone("[[a]: b");
        probe.definesNone("[a]]: b");
        probe.definesNone("[a[b]c]: d");
    }

    private static void labelEscapes() {
        probe.sentence("but [ and ] only with \\ just ahead");
        for (int c = 0; c <= 255; c++) {
            String normal = isWhite(c) ? "\\" : "\\" + sign(c >= 'A' && c <= 'Z' ? c + 32 : c);
            probe.defines("[\\" + sign(c) + "]: u", "'" + normal + "'='u'");
        }
    }

    private static void labelBackslashesAreTwo() {
        probe.sentence("(which has none just ahead that it belongs to: \\ and what follows it are two)");
        for (int n = 1; n <= 8; n++) {
            String row = "\\".repeat(n);
            probe.defines("[" + row + "]: u", n % 2 == 0 ? "'" + row + "'='u'" : "");
            probe.defines("[" + row + "]]: u", n % 2 == 0 ? "" : "'" + row + "]'='u'");
            probe.defines("[" + row + "[]: u", n % 2 == 0 ? "" : "'" + row + "['='u'");
        }
        probe.definesNone("[a\\");
    }

    private static void labelNotAllWhite() {
        probe.sentence("not all WHITE, ]");
        probe.definesNone("[ ]: b");
        probe.definesNone("[" + " ".repeat(100) + "]: b");
        probe.definesNone("[\n]: b");
        probe.definesNone("[ \n]: b");
        probe.defines("[ . ]: b", "'.'='b'");
        probe.defines("[" + " ".repeat(99) + ".]: b", "'.'='b'");
        probe.defines("[\f]: b", "'\f'='b'");
        probe.defines("[\u00a0]: b", "'\u00a0'='b'");
    }

    private static void anglesSigns() {
        probe.sentence("TARGET: <, characters but 10, <, > (these two only behind a \\ of the same kind), >");
        for (int c = 0; c <= 255; c++) {
            boolean fits = c != 10 && c != 13 && c != '<' && c != '>';
            String target = c == 9 ? "b d" : "b" + sign(c) + "d";
            probe.defines("[k]: <b" + sign(c) + "d>", fits ? "'k'='" + target + "'" : "");
        }
    }

    private static void anglesEscapes() {
        probe.sentence("(these two only behind a \\ of the same kind)");
        probe.defines("[k]: <\\<>", "'k'='<'");
        probe.defines("[k]: <\\>>", "'k'='>'");
        probe.definesNone("[k]: <\\\\<>");
        probe.definesNone("[k]: <\\\\>>");
        probe.defines("[k]: <\\\\>", "'k'='\\'");
        probe.definesNone("[k]: <\\>");
        probe.defines("[k]: <\\\\\\>>", "'k'='\\>'");
        probe.definesNone("[k]: <b\\\nc>");
        probe.definesNone("[k]: <b\\");
    }

    private static void anglesEnds() {
        probe.sentence("<, characters .., >");
        probe.defines("[k]: <>", "'k'=''");
        probe.defines("[k]: < >", "'k'=' '");
        probe.definesNone("[k]: <");
        probe.definesNone("[k]: <b");
        probe.definesNone("[k]: <b c");
        String longest = "b".repeat(2993);
        probe.defines("[k]: <" + longest + ">", "'k'='" + longest + "'");
    }

    private static void rowSigns() {
        probe.sentence("or a row of one or more characters above 32, not 127");
        for (int c = 0; c <= 255; c++) {
            boolean fits = c > 32 && c != 127 && c != '(' && c != ')';
            boolean ends = c == 10 || c == 13;
            probe.defines("[k]: b" + sign(c) + "d", fits ? "'k'='b" + sign(c) + "d'" : ends ? "'k'='b'" : "");
        }
        String longest = "b".repeat(2995);
        probe.defines("[k]: " + longest, "'k'='" + longest + "'");
    }

    private static void rowFirst() {
        probe.sentence("one or more characters above 32, not 127, the first not <");
        for (int c = 0; c <= 255; c++) {
            boolean fits = c > 32 && c != 127 && c != '(' && c != ')' && c != '<';
            String target = isWhite(c) ? "d" : sign(c) + "d";
            probe.defines("[k]: " + sign(c) + "d", fits || isWhite(c) ? "'k'='" + target + "'" : "");
            probe.defines("[k]: " + sign(c), fits ? "'k'='" + sign(c) + "'" : "");
        }
        probe.defines("[k]: b<", "'k'='b<'");
        probe.defines("[k]: b>", "'k'='b>'");
    }

    private static void rowEnds() {
        probe.sentence("up to WHITE, the end, or a ) that has no ( in it open");
        probe.defines("[k]: b 'c'", "'k'='b','c'");
        probe.defines("[k]: b\t'c'", "'k'='b','c'");
        probe.left("[k]: b\r.", "'k'='b'", ".");
        probe.defines("[k]: b", "'k'='b'");
        probe.definesNone("[k]: b)");
        probe.definesNone("[k]: b) 'c'");
        probe.definesNone("[k]: b)c");
        probe.definesNone("[k]: b)(c");
        probe.definesNone("[k]: )(");
        probe.definesNone("[k]: )");
        probe.definesNone("[k]: (b))");
        probe.definesNone("[k]: (b)c)");
    }

    private static void rowParentheses() {
        probe.sentence("none if a ( is open at its end");
        probe.defines("[k]: ()", "'k'='()'");
        probe.defines("[k]: (b)(c)", "'k'='(b)(c)'");
        probe.definesNone("[k]: (");
        probe.definesNone("[k]: (b");
        probe.definesNone("[k]: ((b)");
        probe.definesNone("[k]: (b c)");
        int[] depths = {1, 2, 31, 32, 33, 100, 1400};
        for (int n : depths) {
            String target = "(".repeat(n) + ")".repeat(n);
            probe.defines("[k]: " + target, "'k'='" + target + "'");
            probe.definesNone("[k]: (" + target);
            probe.definesNone("[k]: " + target + ")");
        }
    }

    private static void rowEscapes() {
        probe.sentence("a \\ and punctuation behind it are two that open and close nothing");
        probe.defines("[k]: \\(", "'k'='('");
        probe.defines("[k]: \\)", "'k'=')'");
        probe.defines("[k]: (\\))", "'k'='())'");
        probe.defines("[k]: (\\()", "'k'='(()'");
        probe.definesNone("[k]: \\\\(");
        probe.definesNone("[k]: \\\\)");
        probe.definesNone("[k]: a\\b(");
        probe.defines("[k]: \\\\\\(", "'k'='\\('");
        probe.defines("[k]: \\<b", "'k'='<b'");
        probe.defines("[k]: b\\", "'k'='b\\'");
        probe.defines("[k]: b\\\n'c'", "'k'='b\\','c'");
        probe.definesNone("[k]: b\\ c");
    }

    private static void titleSigns() {
        probe.sentence("TITLE: between \" and \", ' and ', or ( and ), with that one (and ( too) within only behind a \\");
        String[] around = {"\"\"", "''", "()"};
        for (String pair : around) {
            for (int c = 0; c <= 255; c++) {
                boolean fits = c != '\\' && pair.indexOf(c) < 0;
                String title = c == 9 ? "    " : c == 13 ? "/" : c == 10 ? "/" : sign(c);
                String text = "[k]: u " + pair.charAt(0) + sign(c) + pair.charAt(1);
                probe.defines(text, fits ? "'k'='u','" + title + "'" : "");
            }
        }
        probe.definesNone("[k]: u [c]");
        probe.definesNone("[k]: u `c`");
        probe.definesNone("[k]: u <c>");
    }

    private static void titleEscapes() {
        probe.sentence("within only behind a \\ of that kind");
        String[] around = {"\"\"", "''", "()"};
        for (String pair : around) {
            char first = pair.charAt(0);
            char last = pair.charAt(1);
            for (int n = 1; n <= 6; n++) {
                String row = "\\".repeat(n);
                String half = "\\".repeat(n / 2);
                probe.defines("[k]: u " + first + "a" + row + last, n % 2 == 0 ? "'k'='u','a" + half + "'" : "");
                probe.defines("[k]: u " + first + "a" + row + last + last, n % 2 == 0 ? "" : "'k'='u','a" + half + last + "'");
                probe.defines("[k]: u " + first + "a" + row + first + last, n % 2 == 0 ? "" : "'k'='u','a" + half + first + "'");
            }
        }
    }

    private static void titleEnds() {
        probe.sentence("between \" and \", ' and ', or ( and )");
        String[] empty = {"\"\"", "''", "()"};
        for (String title : empty) {
            MarkBlocks x = Probe.reading("[k]: u " + title);
            probe.due("definitions() with " + title, x.definitions(), 1);
            probe.due("definition(0, 2) of " + title, x.definition(0, 2), 0);
        }
        String[] open = {"\"", "'", "(", "\"c", "'c", "(c", "\"c'", "'c\"", "(c\"", ")c("};
        for (String title : open) {
            probe.definesNone("[k]: u " + title);
            probe.left("[k]: u\n" + title, "'k'='u'", title);
        }
        String longest = "c".repeat(2991);
        probe.defines("[k]: u '" + longest + "'", "'k'='u','" + longest + "'");
        probe.defines("[k]: u 'c  \n   d'", "'k'='u','c  /d'");
        probe.outline("[k]: u 'c\n\nd'", "(document 0-2 (paragraph 0-0 '[k]: u 'c') (paragraph 2-2 'd''))");
    }

    private static void labelIsNotUnescaped() {
        probe.sentence("TARGET and TITLE are taken UNESCAPED");
        probe.defines("[\\!&amp;&#65;]: \\!&amp;&#65; '\\!&amp;&#65;'", "'\\!&amp;&#65;'='!&A','!&A'");
    }

    private static void unescapedSignsAround() {
        probe.sentence("without these signs around");
        probe.defines("[k]: <b> \"c\"", "'k'='b','c'");
        probe.defines("[k]: <b> 'c'", "'k'='b','c'");
        probe.defines("[k]: <b> (c)", "'k'='b','c'");
        probe.defines("[k]: <(b)> \"'c'\"", "'k'='(b)',''c''");
        probe.defines("[k]: \"b\" ('c')", "'k'='\"b\"',''c''");
    }

    private static void normalEnds() {
        probe.sentence("NORMAL (without WHITE at both ends");
        probe.defines("[  a\t]: b", "'a'='b'");
        probe.defines("[\na\n]: b", "'a'='b'");
        probe.defines("[\fa\f]: b", "'\fa\f'='b'");
        probe.defines("[\u00a0a\u00a0]: b", "'\u00a0a\u00a0'='b'");
    }

    private static void normalRows() {
        probe.sentence("rows of WHITE as one space");
        probe.defines("[a b]: c", "'a b'='c'");
        probe.defines("[a   b\t\tc \n d]: e", "'a b c d'='e'");
        probe.defines("[ab]: c", "'ab'='c'");
        probe.defines("[a\f\fb]: c", "'a\f\fb'='c'");
    }

    private static void normalLetters() {
        probe.sentence("A .. Z as a .. z");
        probe.defines("[@AZ`az{]: b", "'@az`az{'='b'");
        probe.defines("[\u00c0\u00de]: b", "'\u00c0\u00de'='b'");
        MarkBlocks x = Probe.reading("[ABCDEFGHIJKLMNOPQRSTUVWXYZ]: b");
        probe.due("find() of the small ones", Probe.find(x, "abcdefghijklmnopqrstuvwxyz"), 0);
        probe.defines("[a]: B 'C'", "'a'='B','C'");
    }

    private static void firstCounts() {
        probe.sentence("Of one label, NORMAL, the first counts.");
        probe.defines("[a]: b\n[a]: c", "'a'='b'");
        probe.defines("[ A ]: b\n[a]: c\n[\na]: d", "'a'='b'");
        probe.defines("[x  y]: b\n[X\nY]: c\n[xy]: d", "'x y'='b' 'xy'='d'");
        probe.defines("[a]: b\n\n> [A]: c\n\n- [a]: d\n- [e]: f", "'a'='b' 'e'='f'");
        probe.defines("[\\!]: b\n[!]: c", "'\\!'='b' '!'='c'");
        probe.outline("[a]: b\n\n[a]: c", "(document 0-0)");
    }
}
