/** Promise 8: letter. */
public final class LettersTest {
    private static final Probe probe = new Probe();

    public static void main(String[] args) {
        MarkBlocks x = Probe.reading("ab\nc\n\n# d\n\n~~~ ef g\n h\n~~~\n- i\n***\n");
        String[] texts = {"", "ab\nc", "d", " h\n", "", "", "i", ""};
        String[] infos = {"", "", "", "ef g", "", "", "", ""};
        probe.due("blocks", x.about(1), texts.length);
        for (int k = 0; k < texts.length; k++) {
            letters(x, k, false, texts[k]);
            letters(x, k, true, infos[k]);
        }
        int[] wrong = {-1, 8, 9, Integer.MIN_VALUE, Integer.MAX_VALUE};
        for (int k : wrong) {
            probe.due("letter(" + k + ", false, 0)", x.letter(k, false, 0), MarkBlocks.NONE);
            probe.due("letter(" + k + ", true, 0)", x.letter(k, true, 0), MarkBlocks.NONE);
        }
        behindTakenDefinitions();
        overwrittenTape();
        probe.finish();
    }

    private static void letters(MarkBlocks x, int k, boolean info, String want) {
        probe.due("block(" + k + (info ? ", 5)" : ", 4)"), x.block(k, info ? 5 : 4), want.length());
        int[] outside = {Integer.MIN_VALUE, -2, -1, want.length(), want.length() + 1, Integer.MAX_VALUE};
        for (int i = 0; i < want.length(); i++) {
            probe.due("letter(" + k + ", " + info + ", " + i + ")", x.letter(k, info, i), (int) want.charAt(i));
        }
        for (int i : outside) {
            probe.due("letter(" + k + ", " + info + ", " + i + ")", x.letter(k, info, i), MarkBlocks.NONE);
        }
    }

    private static void behindTakenDefinitions() {
        letters(Probe.reading("[a]: b\nc d  "), 1, false, "c d");
        letters(Probe.reading("[a]: b\n[a]: c\nd\n---"), 1, false, "d");
        letters(Probe.reading("    a\n\n   \n\nb"), 1, false, "a\n");
    }

    private static void overwrittenTape() {
        MarkBlocks x = Probe.reading("abc");
        x.wipe();
        Probe.put(x, "xyz");
        letters(x, 1, false, "abc");
        x.find();
        letters(x, 1, false, "abc");
    }
}
