/** Promise 7, what = 3: which lists are loose. */
public final class LooseTest {
    private static final Probe probe = new Probe();

    public static void main(String[] args) {
        betweenItems();
        insideItems();
        innerLists();
        goneAway();
        lastsThatCount();
        others();
        probe.finish();
    }

    /** The signs of all lists of the text, with l behind the loose ones. */
    private static void lists(String text, String want) {
        MarkBlocks x = Probe.reading(text);
        StringBuilder got = new StringBuilder();
        for (int k = 0; k < x.about(1); k++) {
            if (x.block(k, 0) == 2) {
                got.append((char) x.block(k, 9)).append(x.block(k, 3) == 1 ? "l" : "");
            }
        }
        probe.due("lists of " + Probe.quoted(text), got, want);
    }

    private static void betweenItems() {
        lists("- a\n- b\n- c", "-");
        lists("- a\n\n- b\n- c", "-l");
        lists("- a\n- b\n\n- c", "-l");
        lists("- a\n- b\n\n\n\n- c", "-l");
        lists("- a\n\n\n", "-");
        lists("- a\nb\nc\n- d", "-");
        lists("-\n-\n-", "-");
        lists("-\n\n-", "-l");
        lists("1. a\n2. b\n\n3) c\n4) d", ".)");
        lists("- a\n\n* b\n\n- c", "-*-");
    }

    private static void insideItems() {
        lists("- a\n\n  b", "-l");
        lists("- a\n  > b", "-");
        lists("- a\n\n  > b\n- c", "-l");
        lists("- a\n- b\n\n  c\n- d", "-l");
        lists("-\n  a", "-");
        lists("- # a\n  b\n  ***\n  ```\n  ```\n      c", "-");
        lists("- # a\n\n  b", "-l");
        lists("- > a\n  >\n  > b", "-");
        lists("- > a\n  >\n\n  b", "-l");
    }

    private static void innerLists() {
        lists("- a\n  + b\n\n    c\n- d", "-+l");
        lists("- a\n  + b\n\n- c", "-l+");
        lists("- a\n\n  + b\n  + c", "-l+");
        lists("- a\n  + b\n\n  + c", "-+l");
        lists("> - a\n> - b\n>\n> c", "-");
        lists("- + a\n\n  * b", "-l+*");
    }

    private static void goneAway() {
        lists("- a\n\n  [b]: c\n- d", "-l");
        lists("- a\n- [b]: c\n- d", "-");
        lists("- a\n- [b]:\n  c\n- d", "-l");
        lists("- [b]: c\n\n  d", "-");
        lists("- # a\n  [b]: c\n  # d", "-l");
        lists("- # a\n  [b]: c\n  d", "-");
    }

    private static void lastsThatCount() {
        lists("- ```\n\n  ```\n- a", "-");
        lists("- ```\n\n\n- a", "-");
        lists("- ```\n  a\n\n  ```\n  b", "-");
        lists("-     a\n\n- b", "-l");
        lists("-     a\n\n      b\n- c", "-");
        lists("- a\n  ===\n  b\n- c", "-");
        lists("- a\n  - b\nc\n- d", "--");
    }

    private static void others() {
        MarkBlocks x = Probe.reading("- a\n\n  b\n\nc\n\nd");
        probe.due("the document", x.block(0, 3), 0);
        probe.due("the list", x.block(1, 3), 1);
        probe.due("the item", x.block(2, 3), 0);
        probe.due("a paragraph", x.block(3, 3), 0);
    }
}
