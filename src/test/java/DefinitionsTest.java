/** Promises 9 to 12 over the part DEFINITIONS: definitions, definition, defined, find. */
public final class DefinitionsTest {
    private static final Probe probe = new Probe();

    public static void main(String[] args) {
        forms();
        gaps();
        labels();
        targetsInAngles();
        targetsOfSigns();
        titles();
        titlesThatCannotBe();
        escapes();
        references();
        firstCounts();
        places();
        wrongCalls();
        find();
        probe.finish();
    }

    private static void forms() {
        probe.defines("[a]: b", "'a'='b'");
        probe.defines("[a]:b", "'a'='b'");
        probe.defines("[a]: b \"c\"", "'a'='b','c'");
        probe.defines("[a]: <b c> 'd e'", "'a'='b c','d e'");
        probe.defines("[a]: b (c)\n[d]: e\n[f]: g", "'a'='b','c' 'd'='e' 'f'='g'");
        probe.defines("   [a]: b", "'a'='b'");
        probe.definesNone("[a] : b");
        probe.definesNone("[a] b");
        probe.definesNone("[a]");
        probe.definesNone("[a]:");
        probe.definesNone("a [a]: b");
        probe.definesNone("[a]: b c");
        probe.left("[a]: b\nc", "'a'='b'", "c");
        probe.left("[a]: b\n[c]\n[d]: e", "'a'='b'", "[c]\n[d]: e");
        probe.outline("    [a]: b", "(document 0-0 (code 0-0 '[a]: b/'))");
    }

    private static void gaps() {
        probe.defines("[a]:   \n   b   \n   'c'   ", "'a'='b','c'");
        probe.defines("[a]:\nb\n'c'", "'a'='b','c'");
        probe.defines("[a]:\tb\t'c'\t", "'a'='b','c'");
        probe.outline("[a]:\n\nb", "(document 0-2 (paragraph 0-0 '[a]:') (paragraph 2-2 'b'))");
        probe.left("[a]: b\n\n'c'", "'a'='b'", "'c'");
        probe.definesNone("[a]: <b>'c'");
        probe.defines("[a]: b'c'", "'a'='b'c''");
    }

    private static void labels() {
        probe.defines("[ A  b\n c ]: d", "'a b c'='d'");
        probe.defines("[\\[\\]]: a", "'\\[\\]'='a'");
        probe.defines("[\\\\]: a", "'\\\\'='a'");
        probe.definesNone("[\\\\\\]: a");
        probe.definesNone("[a\\]: b");
        probe.definesNone("[a[b]: c");
        probe.definesNone("[a]b]: c");
        probe.definesNone("[]: a");
        probe.definesNone("[ \n ]: a".replace("\n ", "\n"));
        probe.defines("[\\]]: a", "'\\]'='a'");
        probe.defines("[!]: a", "'!'='a'");
        probe.defines("[\u00c0AZ@]: a", "'\u00c0az@'='a'");
        probe.defines("[\\a\\]b]: c", "'\\a\\]b'='c'");
        String hundred = "a".repeat(100);
        probe.defines("[" + hundred + "]: b", "'" + hundred + "'='b'");
        probe.definesNone("[" + hundred + "a]: b");
        String escaped = "\\]".repeat(50);
        probe.defines("[" + escaped + "]: b", "'" + escaped + "'='b'");
        probe.definesNone("[" + escaped + "a]: b");
        probe.defines("[a" + " ".repeat(98) + "b]: c", "'a b'='c'");
        probe.definesNone("[a" + " ".repeat(99) + "b]: c");
    }

    private static void targetsInAngles() {
        probe.defines("[a]: <>", "'a'=''");
        probe.defines("[a]: <> 'b'", "'a'='','b'");
        probe.defines("[a]: <b)( \u007fc>", "'a'='b)( \u007fc'");
        probe.defines("[a]: <\\<b\\>>", "'a'='<b>'");
        probe.defines("[a]: <b\\\\>", "'a'='b\\'");
        probe.definesNone("[a]: <b");
        probe.definesNone("[a]: <b\nc>");
        probe.definesNone("[a]: <b\\\nc>");
        probe.definesNone("[a]: <b<c>");
        probe.definesNone("[a]: <b\\>");
        probe.definesNone("[a]: <b>c");
        probe.definesNone("[a]: <b>>");
        probe.left("[a]: <b>\nc>", "'a'='b'", "c>");
    }

    private static void targetsOfSigns() {
        probe.defines("[a]: b(c)d", "'a'='b(c)d'");
        probe.defines("[a]: ((b)(c))", "'a'='((b)(c))'");
        probe.definesNone("[a]: (b");
        probe.definesNone("[a]: b)");
        probe.definesNone("[a]: )");
        probe.definesNone("[a]: (b))");
        probe.defines("[a]: \\(b\\)\\)", "'a'='(b))'");
        probe.defines("[a]: b\\\\(c)", "'a'='b\\(c)'");
        probe.definesNone("[a]: b\\\\(c");
        probe.definesNone("[a]: b\u007fc");
        probe.definesNone("[a]: b\u0001c");
        probe.definesNone("[a]: \u0001");
        probe.definesNone("[a]: b\0");
        probe.defines("[a]: \u0080\u00ff", "'a'='\u0080\u00ff'");
        probe.defines("[a]: b<c>", "'a'='b<c>'");
        probe.defines("[a]: \\<b", "'a'='<b'");
        probe.defines("[a]: [b]", "'a'='[b]'");
        probe.defines("[a]: \"b\"", "'a'='\"b\"'");
        probe.defines("[a]: b\\", "'a'='b\\'");
        probe.defines("[a]: b\\ 'c'", "'a'='b\\','c'");
    }

    private static void titles() {
        probe.defines("[a]: b \"c'(d)\"", "'a'='b','c'(d)'");
        probe.defines("[a]: b 'c\"(d'", "'a'='b','c\"(d'");
        probe.defines("[a]: b (c\"'d)", "'a'='b','c\"'d'");
        probe.defines("[a]: b \"c\\\"d\"", "'a'='b','c\"d'");
        probe.defines("[a]: b (c\\)\\(d)", "'a'='b','c)(d'");
        probe.defines("[a]: b \"c\nd\n  e \"", "'a'='b','c/d/e '");
        probe.defines("[a]: b \"\\\\\"", "'a'='b','\\'");
        probe.defines("[a]: b \"\"", "'a'='b'");
        probe.defines("[a]: b\n\"c\"", "'a'='b','c'");
        MarkBlocks x = Probe.reading("[a]: b ''\n[c]: d");
        probe.due("definition(0, 2) of an empty title", x.definition(0, 2), 0);
        probe.due("definition(1, 2) without a title", x.definition(1, 2), 0);
        probe.due("defined(1, 2, 0) without a title", x.defined(1, 2, 0), MarkBlocks.NONE);
    }

    private static void titlesThatCannotBe() {
        probe.definesNone("[a]: b \"c\" d");
        probe.definesNone("[a]: b \"c");
        probe.definesNone("[a]: b (c(d)");
        probe.definesNone("[a]: b \"c\\\"");
        probe.definesNone("[a]: b 'c\"");
        probe.left("[a]: b\n\"c\" d", "'a'='b'", "\"c\" d");
        probe.left("[a]: b\n\"c", "'a'='b'", "\"c");
        probe.left("[a]: b\n(c(d)", "'a'='b'", "(c(d)");
        probe.left("[a]: b \"c\"\n\"d\"", "'a'='b','c'", "\"d\"");
        probe.left("[a]: b\n'c'\n[d]: e f", "'a'='b','c'", "[d]: e f");
        probe.left("[a]: b\n\"c\n[d]: e", "'a'='b'", "\"c\n[d]: e");
    }

    private static void escapes() {
        probe.defines("[a]: \\!\\/\\:\\@\\[\\`\\{\\~", "'a'='!/:@[`{~'");
        probe.defines("[a]: \\0\\9\\A\\z\\\u0080", "'a'='\\0\\9\\A\\z\\\u0080'");
        probe.defines("[a]: b \"\\a\\&amp;\\\\&amp;\"", "'a'='b','\\a&amp;\\&'");
        probe.defines("[a]: b \"c\\\nd\"", "'a'='b','c\\/d'");
        probe.defines("[a]: <\\ \\\u007f>", "'a'='\\ \\\u007f'");
        probe.defines("[\\!&amp;]: b", "'\\!&amp;'='b'");
    }

    private static void references() {
        probe.defines("[a]: &amp;&lt;&gt;&quot;&apos;", "'a'='&<>\"''");
        probe.defines("[a]: &nbsp;", "'a'='\u00a0'");
        probe.defines("[a]: &#65;&#x42;&#X43;&#0000068;&#x000045;", "'a'='ABCDE'");
        probe.defines("[a]: &#00000065;&#x0000041;", "'a'='&#00000065;&#x0000041;'");
        probe.defines("[a]: &#0;&#x0;&#1114112;&#9999999;&#xFFFFFF;", "'a'='\ufffd\ufffd\ufffd\ufffd\ufffd'");
        probe.defines("[a]: &#;&#x;&#g;&#xg;&#6a;&;&amp", "'a'='&#;&#x;&#g;&#xg;&#6a;&;&amp'");
        probe.defines("[a]: &AMP;&Lt;&copy;&am;&ampx;", "'a'='&AMP;&Lt;&copy;&am;&ampx;'");
        probe.defines("[a]: &#38;amp;", "'a'='&amp;'");
        probe.defines("[a]: &&amp;", "'a'='&&'");
        probe.defines("[a]: b '&quot;&#10;'", "'a'='b','\"/'");
        probe.defines("[a]: &#x4a;&#x4b;&#x4c;&#x4d;&#x4e;&#x4f;&#x4A;&#x4B;&#x4C;&#x4D;&#x4E;&#x4F;", "'a'='JKLMNOJKLMNO'");
        probe.defines("[a]: &#x4`;&#x4g;&#x4@;&#x4G;&#x4/;&#x4:;&#4a;&#4/;&#4:;",
            "'a'='&#x4`;&#x4g;&#x4@;&#x4G;&#x4/;&#x4:;&#4a;&#4/;&#4:;'");
        probe.defines("[a]: &#1;&#x1;", "'a'='\u0001\u0001'");
        MarkBlocks x = Probe.reading("[a]: &#1114111;&#x1F600;&#55295;&#55296;&#57343;&#57344;&#xabcdef;&#32;");
        int[] want = {1114111, 128512, 55295, 65533, 65533, 57344, 65533, 32};
        probe.due("length of references", x.definition(0, 1), want.length);
        for (int i = 0; i < want.length; i++) {
            probe.due("reference " + i, x.defined(0, 1, i), want[i]);
        }
    }

    private static void firstCounts() {
        probe.defines("[a]: b\n[A]: c\n[ a ]: d\n[e]: f", "'a'='b' 'e'='f'");
        probe.defines("[a]: b\n\n> [a]: c\n> [b]: d\n\n- [B]: e\n", "'a'='b' 'b'='d'");
        probe.defines("[a  b]: c\n[A\nB]: d", "'a b'='c'");
        probe.outline("[a]: b\n[a]: c", "(document 0-0)");
        probe.defines("[ab]: c\n[a]: d\n[abc]: e", "'ab'='c' 'a'='d' 'abc'='e'");
        probe.defines("[\\!]: a\n[!]: b", "'\\!'='a' '!'='b'");
    }

    private static void places() {
        probe.defines("# [a]: b", "");
        probe.defines("```\n[a]: b\n```", "");
        probe.defines("> [a]: b\n>> [c]: d\n\n1. [e]: f\n   # g\n", "'a'='b' 'c'='d' 'e'='f'");
        probe.defines("[a]: b\n# c\n[d]: e\n***\n[f]: g\n> h", "'a'='b' 'd'='e' 'f'='g'");
        probe.defines("> [a]:\nb\n> 'c'", "'a'='b','c'");
        probe.defines("[a]: b\nc\n===\n[d]: e", "'a'='b' 'd'='e'");
        MarkBlocks x = Probe.reading("[a]: b");
        x.wipe();
        x.read();
        probe.due("definitions() of the next text", x.definitions(), 0);
    }

    private static void wrongCalls() {
        MarkBlocks x = Probe.reading("[ab]: cde 'f'\n[g]: h");
        probe.due("definitions()", x.definitions(), 2);
        int[][] lengths = {{2, 3, 1}, {1, 1, 0}};
        for (int k = 0; k < 2; k++) {
            for (int what = 0; what < 3; what++) {
                probe.due("definition(" + k + ", " + what + ")", x.definition(k, what), lengths[k][what]);
                int[] outside = {Integer.MIN_VALUE, -1, lengths[k][what], Integer.MAX_VALUE};
                for (int i : outside) {
                    probe.due("defined(" + k + ", " + what + ", " + i + ")", x.defined(k, what, i), MarkBlocks.NONE);
                }
            }
        }
        int[] wrong = {Integer.MIN_VALUE, -1, 3, Integer.MAX_VALUE};
        for (int w : wrong) {
            probe.due("definition(0, " + w + ")", x.definition(0, w), MarkBlocks.NONE);
            probe.due("defined(0, " + w + ", 0)", x.defined(0, w, 0), MarkBlocks.NONE);
            probe.due("definition(" + w + ", 0)", x.definition(w, 0), MarkBlocks.NONE);
            probe.due("defined(" + w + ", 0, 0)", x.defined(w, 0, 0), MarkBlocks.NONE);
        }
        probe.due("definition(2, 0)", x.definition(2, 0), MarkBlocks.NONE);
        probe.due("defined(0, 1, 2)", x.defined(0, 1, 2), 101);
        probe.due("defined(1, 0, 0)", x.defined(1, 0, 0), 103);
    }

    private static void find() {
        MarkBlocks x = Probe.reading("[a]: b\n[C d]: e\n[\\]]: f");
        probe.due("find() a", Probe.find(x, "a"), 0);
        probe.due("find() A", Probe.find(x, "A"), 0);
        probe.due("find() with white", Probe.find(x, " \t\r\n c\t\n\r D\n"), 1);
        probe.due("find() cd", Probe.find(x, "cd"), MarkBlocks.NONE);
        probe.due("find() \\]", Probe.find(x, "\\]"), 2);
        probe.due("find() ]", Probe.find(x, "]"), MarkBlocks.NONE);
        probe.due("find() of nothing", Probe.find(x, ""), MarkBlocks.NONE);
        probe.due("find() of white", Probe.find(x, " \n"), MarkBlocks.NONE);
        probe.due("find() of more", Probe.find(x, "ab"), MarkBlocks.NONE);
        probe.due("find() of its target", Probe.find(x, "b"), MarkBlocks.NONE);
        probe.due("find() of [a]", Probe.find(x, "[a]"), MarkBlocks.NONE);
        probe.due("find() of a long tape", Probe.find(x, "a".repeat(3000)), MarkBlocks.NONE);
        probe.due("find() of a in much white", Probe.find(x, " ".repeat(1500) + "a" + "\t".repeat(1499)), 0);
        probe.due("definitions stay", Probe.definitionsOf(x), "'a'='b' 'c d'='e' '\\]'='f'");
        probe.due("the tape stays", x.about(0), 3000);
    }
}
