/** The boundaries of PUNCTUATION and REFERENCES, in TARGETs and TITLEs. */
public final class ReferencesBoundsTest {
    private static final Probe probe = new Probe();
    private static final int REPLACEMENT = 65533;

    public static void main(String[] args) {
        punctuation();
        decimalDigits();
        decimalSigns();
        hexadecimalDigits();
        hexadecimalSigns();
        hexadecimalLetter();
        semicolon();
        names();
        namesThatAreNone();
        replaced();
        notReplaced();
        inOrder();
        toldOnce();
        probe.finish();
    }

    /** In a target, in a target in angles and in a title the text tells that one character. */
    private static void tells(String reference, int want) {
        String[] texts = {"[k]: " + reference, "[k]: <" + reference + ">", "[k]: u '" + reference + "'"};
        int[] whats = {1, 1, 2};
        for (int i = 0; i < texts.length; i++) {
            MarkBlocks x = Probe.reading(texts[i]);
            probe.due("length in " + texts[i], x.definition(0, whats[i]), 1);
            probe.due("character in " + texts[i], x.defined(0, whats[i], 0), want);
        }
    }

    /** The text is no reference and stays as it is. */
    private static void stays(String text) {
        probe.defines("[k]: " + text, "'k'='" + text + "'");
        probe.defines("[k]: <" + text + ">", "'k'='" + text + "'");
        probe.defines("[k]: u \"" + text + "\"", "'k'='u','" + text + "'");
    }

    private static void punctuation() {
        probe.sentence("\\ and PUNCTUATION as that one. PUNCTUATION: 33 .. 47, 58 .. 64, 91 .. 96, 123 .. 126.");
        for (int c = 0; c <= 255; c++) {
            if (c == 9 || c == 10 || c == 13) {
                continue;
            }
            boolean isPunctuation = c >= 33 && c <= 47 || c >= 58 && c <= 64 || c >= 91 && c <= 96 || c >= 123 && c <= 126;
            String want = (isPunctuation ? "" : "\\") + (char) c;
            probe.defines("[k]: u \"\\" + (char) c + "\"", "'k'='u','" + want + "'");
            probe.defines("[k]: <\\" + (char) c + ">", "'k'='" + want + "'");
            if (c > 32 && c != 127) {
                probe.defines("[k]: \\" + (char) c, "'k'='" + want + "'");
            }
        }
        probe.defines("[k]: u \"\\\n\"", "'k'='u','\\/'");
    }

    private static void decimalDigits() {
        probe.sentence("A REFERENCE: &, then # and 1 .. 7 digits");
        stays("&#;");
        tells("&#7;", 7);
        tells("&#65;", 65);
        tells("&#000065;", 65);
        tells("&#0000065;", 65);
        tells("&#1000000;", 1000000);
        stays("&#00000065;");
        stays("&#10000000;");
        stays("&#" + "0".repeat(500) + ";");
    }

    private static void decimalSigns() {
        probe.sentence("# and 1 .. 7 digits");
        for (int d = 0; d <= 9; d++) {
            tells("&#10" + d + ";", 100 + d);
        }
        stays("&#4/;");
        stays("&#4:;");
        stays("&#4a;");
        stays("&#a;");
        stays("&#-1;");
        stays("&#+1;");
        stays("&65;");
        stays("#65;");
    }

    private static void hexadecimalDigits() {
        probe.sentence("or #x or #X and 1 .. 6 digits of hexadecimals");
        stays("&#x;");
        tells("&#x7;", 7);
        tells("&#x41;", 65);
        tells("&#x00041;", 65);
        tells("&#x000041;", 65);
        tells("&#x100000;", 0x100000);
        stays("&#x0000041;");
        stays("&#x1000000;");
        stays("&#X" + "0".repeat(500) + ";");
    }

    private static void hexadecimalSigns() {
        probe.sentence("digits of hexadecimals");
        String digits = "0123456789abcdef";
        for (int d = 0; d < digits.length(); d++) {
            tells("&#x4" + digits.charAt(d) + ";", 64 + d);
            tells("&#x4" + digits.toUpperCase().charAt(d) + ";", 64 + d);
        }
        stays("&#x4/;");
        stays("&#x4:;");
        stays("&#x4@;");
        stays("&#x4G;");
        stays("&#x4`;");
        stays("&#x4g;");
    }

    private static void hexadecimalLetter() {
        probe.sentence("#x or #X");
        tells("&#x4a;", 74);
        tells("&#X4a;", 74);
        stays("&#y4a;");
        stays("&#w41;");
        stays("&x4a;");
        stays("&#0x41;");
        stays("&#xx41;");
    }

    private static void semicolon() {
        probe.sentence("and ;");
        stays("&#65");
        stays("&#x41");
        stays("&amp");
        stays("&#65:");
        stays("&#x41:");
        stays("&amp:");
        stays("&;");
        stays("&");
        probe.defines("[k]: <&#65>;", "");
        probe.defines("[k]: u '&amp' ;", "");
    }

    private static void names() {
        probe.sentence("Names: amp 38, lt 60, gt 62, quot 34, apos 39, nbsp 160.");
        tells("&amp;", 38);
        tells("&lt;", 60);
        tells("&gt;", 62);
        tells("&quot;", 34);
        tells("&apos;", 39);
        tells("&nbsp;", 160);
    }

    private static void namesThatAreNone() {
        probe.sentence("or a name");
        String[] names = {"amp", "lt", "gt", "quot", "apos", "nbsp"};
        for (String name : names) {
            stays("&" + name.toUpperCase() + ";");
            stays("&" + name.substring(1) + ";");
            stays("&" + name.substring(0, name.length() - 1) + ";");
            stays("&" + name + "x;");
            stays("&x" + name + ";");
            stays("&#" + name + ";");
        }
        stays("&copy;");
        stays("&Amp;");
    }

    private static void replaced() {
        probe.sentence("that number's character (65533 of 0, of one above 1114111, or 55296 .. 57343)");
        tells("&#0;", REPLACEMENT);
        tells("&#0000000;", REPLACEMENT);
        tells("&#x0;", REPLACEMENT);
        tells("&#1114112;", REPLACEMENT);
        tells("&#x110000;", REPLACEMENT);
        tells("&#9999999;", REPLACEMENT);
        tells("&#xffffff;", REPLACEMENT);
        tells("&#55296;", REPLACEMENT);
        tells("&#xd800;", REPLACEMENT);
        tells("&#57343;", REPLACEMENT);
        tells("&#xDFFF;", REPLACEMENT);
        tells("&#56000;", REPLACEMENT);
    }

    private static void notReplaced() {
        probe.sentence("that number's character");
        tells("&#1;", 1);
        tells("&#x1;", 1);
        tells("&#1114111;", 1114111);
        tells("&#x10ffff;", 1114111);
        tells("&#55295;", 55295);
        tells("&#xd7ff;", 55295);
        tells("&#57344;", 57344);
        tells("&#xe000;", 57344);
        tells("&#65533;", REPLACEMENT);
        tells("&#256;", 256);
        tells("&#10;", 10);
        tells("&#32;", 32);
    }

    private static void inOrder() {
        probe.sentence("\\ and PUNCTUATION as that one, REFERENCES as what they tell");
        probe.defines("[k]: \\&amp;", "'k'='&amp;'");
        probe.defines("[k]: \\\\&amp;", "'k'='\\&'");
        probe.defines("[k]: &\\amp;", "'k'='&\\amp;'");
        probe.defines("[k]: &amp\\;", "'k'='&amp;'");
        probe.defines("[k]: &#92;!", "'k'='\\!'");
        probe.defines("[k]: &&lt;", "'k'='&<'");
        probe.defines("[k]: &#6&gt;5;", "'k'='&#6>5;'");
    }

    private static void toldOnce() {
        probe.sentence("REFERENCES as what they tell");
        probe.defines("[k]: &amp;amp;", "'k'='&amp;'");
        probe.defines("[k]: &#38;lt;", "'k'='&lt;'");
        probe.defines("[k]: &#40;", "'k'='('");
        probe.defines("[k]: u '&apos;&quot;'", "'k'='u',''\"'");
        probe.defines("[k]: u&#32;'v'", "'k'='u 'v''");
    }
}
