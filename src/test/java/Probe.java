/** What the tests share: putting texts on a tape, telling what was read, and counting wrong answers. */
final class Probe {
    private static final String[] KINDS =
        {"document", "quote", "list", "item", "paragraph", "heading", "rule", "code"};

    private int wrong = 0;
    private int looked = 0;
    private String sentence = "";

    /** The document's words that the next answers are about: they are printed with each wrong one. */
    void sentence(String words) {
        sentence = words;
    }

    /** Prints the call if its answer is not the one that is due. */
    void due(String call, Object got, Object want) {
        looked++;
        if (!String.valueOf(got).equals(String.valueOf(want))) {
            wrong++;
            System.out.println(call + "\n  answered " + got + "\n  due is   " + want);
            System.out.print(sentence.isEmpty() ? "" : "  by        " + sentence + "\n");
        }
    }

    /** The text is read by a new object and told as an outline. */
    void outline(String text, String want) {
        due("outline of " + quoted(text), outlineOf(reading(text)), want);
    }

    /** The text is read by a new object and its definitions are told. */
    void defines(String text, String want) {
        due("definitions of " + quoted(text), definitionsOf(reading(text)), want);
    }

    /** The text's first paragraph has these definitions, and this is left of it. */
    void left(String text, String wantDefined, String wantLeft) {
        MarkBlocks x = reading(text);
        due("definitions of " + quoted(text), definitionsOf(x), wantDefined);
        due("left of " + quoted(text), textOf(x, 1, false), wantLeft);
    }

    /** The text is one paragraph that has no definition and stays as it is. */
    void definesNone(String text) {
        left(text, "", text);
    }

    /** The text is too deep in that line. */
    void tooDeep(String text, int line) {
        MarkBlocks x = new MarkBlocks();
        put(x, text);
        due("read() of " + quoted(text), read(x), "throws");
        due("fault() behind read() of " + quoted(text), x.fault(), line);
    }

    void finish() {
        System.out.println(looked + " answers looked at, " + wrong + " not as due");
        if (wrong != 0) {
            System.exit(1);
        }
    }

    static MarkBlocks reading(String text) {
        MarkBlocks x = new MarkBlocks();
        put(x, text);
        x.read();
        return x;
    }

    static String read(MarkBlocks x) {
        try {
            return String.valueOf(x.read());
        } catch (IllegalArgumentException e) {
            return "throws";
        }
    }

    /** Puts the text behind what the tape has. */
    static void put(MarkBlocks x, String text) {
        for (int from = 0; from < text.length(); from += 20) {
            int length = Math.min(20, text.length() - from);
            int[] words = new int[5];
            for (int i = 0; i < length; i++) {
                words[i / 4] |= text.charAt(from + i) << (24 - 8 * (i % 4));
            }
            x.feed(words[0], words[1], words[2], words[3], words[4]);
            x.end(length);
        }
    }

    static int find(MarkBlocks x, String label) {
        x.wipe();
        put(x, label);
        return x.find();
    }

    static String outlineOf(MarkBlocks x) {
        StringBuilder out = new StringBuilder();
        tell(x, 0, out);
        return out.toString();
    }

    static String definitionsOf(MarkBlocks x) {
        StringBuilder out = new StringBuilder();
        for (int k = 0; k < x.definitions(); k++) {
            out.append(k == 0 ? "" : " ").append(part(x, k, 0)).append('=').append(part(x, k, 1));
            if (x.definition(k, 2) > 0) {
                out.append(',').append(part(x, k, 2));
            }
        }
        return out.toString();
    }

    private static String part(MarkBlocks x, int k, int what) {
        StringBuilder out = new StringBuilder();
        for (int i = 0; i < x.definition(k, what); i++) {
            out.appendCodePoint(x.defined(k, what, i));
        }
        return quoted(out.toString());
    }

    static String textOf(MarkBlocks x, int k, boolean info) {
        StringBuilder out = new StringBuilder();
        for (int i = 0; i < x.block(k, info ? 5 : 4); i++) {
            out.append((char) x.letter(k, info, i));
        }
        return out.toString();
    }

    private static void tell(MarkBlocks x, int k, StringBuilder out) {
        int kind = x.block(k, 0);
        out.append('(').append(KINDS[kind]).append(' ').append(x.block(k, 6)).append('-').append(x.block(k, 7));
        if (x.block(k, 2) != 0) {
            out.append(" n").append(x.block(k, 2));
        }
        if (x.block(k, 8) != 0) {
            out.append(" w").append(x.block(k, 8));
        }
        if (x.block(k, 9) != 0) {
            out.append(' ').append((char) x.block(k, 9));
        }
        if (x.block(k, 3) != 0) {
            out.append(" loose");
        }
        if (x.block(k, 5) != 0) {
            out.append(" info ").append(quoted(textOf(x, k, true)));
        }
        if (x.block(k, 4) != 0) {
            out.append(' ').append(quoted(textOf(x, k, false)));
        }
        for (int inner = k + 1; x.block(inner, 0) != MarkBlocks.NONE; inner++) {
            if (x.block(inner, 1) == k) {
                out.append(' ');
                tell(x, inner, out);
            }
        }
        out.append(')');
    }

    static String quoted(String text) {
        return "'" + text.replace("\n", "/").replace("\r", "{13}").replace("\t", "{9}") + "'";
    }
}
