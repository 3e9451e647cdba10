import java.util.ArrayList;
import java.util.Arrays;

/** A reader of texts with marks at the beginnings of lines; the document's promises stand in DOC.md. */
public final class MarkBlocks {
    public static final int NONE = -1;

    private static final int TAPE_LIMIT = 3000;
    private static final int READY_LIMIT = 20;

    /** How many QUOTEs, LISTs and ITEMs may stand inside one another. */
    private static final int DEEPEST = 12;

    private static final int DOCUMENT = 0;
    private static final int QUOTE = 1;
    private static final int LIST = 2;
    private static final int ITEM = 3;
    private static final int PARAGRAPH = 4;
    private static final int HEADING = 5;
    private static final int RULE = 6;
    private static final int CODE = 7;

    private static final int TAB = 9;
    private static final int LINE_FEED = 10;
    private static final int RETURN = 13;
    private static final int SPACE = 32;
    private static final int DELETE = 127;

    private final Row tape;
    private final int[] ready;
    private final Tree tree;
    private final Labels labels;
    private final Line line;
    private final Reader reader;
    private int lines;
    private int faultLine;

    public MarkBlocks() {
        tape = new Row();
        ready = new int[READY_LIMIT];
        tree = new Tree();
        labels = new Labels(tree.text);
        line = new Line();
        reader = new Reader(tree, labels, line);
        lines = 0;
        faultLine = NONE;
    }

    public void feed(int a, int b, int c, int d, int e) {
        putReady(0, a);
        putReady(4, b);
        putReady(8, c);
        putReady(12, d);
        putReady(16, e);
    }

    public int end(int n) {
        if (n < 0 || n > ready.length || tape.size() + n > TAPE_LIMIT) {
            return NONE;
        }
        for (int i = 0; i < n; i++) {
            tape.add(ready[i]);
        }
        Arrays.fill(ready, 0);
        return tape.size();
    }

    public void wipe() {
        tape.cut(0);
    }

    public int read() throws IllegalArgumentException {
        forget();
        reader.start();
        for (int n = 0; n < TAPE_LIMIT && line.takeNext(tape); n++) {
            reader.goOn(n);
            if (!reader.lookForBeginnings()) {
                forget();
                faultLine = n;
                throw new IllegalArgumentException("too deep");
            }
            reader.takeRest();
            lines = n + 1;
        }
        reader.finish();
        tree.finish();
        return tree.size();
    }

    public int fault() {
        return faultLine;
    }

    public int block(int k, int what) {
        Block b = tree.at(k);
        return b == null ? NONE : b.tell(what);
    }

    public int letter(int k, boolean info, int i) {
        Block b = tree.at(k);
        if (b == null || i < 0 || i >= (info ? b.infoLength : b.textLength)) {
            return NONE;
        }
        return tree.text.at((info ? b.infoFrom : b.textFrom) + i);
    }

    public int definitions() {
        return labels.size();
    }

    public int definition(int k, int what) {
        return labels.partLength(k, what);
    }

    public int defined(int k, int what, int i) {
        return labels.partSign(k, what, i);
    }

    public int find() {
        return labels.withLabel(tape, 0, tape.size());
    }

    public int about(int what) {
        switch (what) {
            case 0: return tape.size();
            case 1: return tree.size();
            case 2: return lines;
            default: return NONE;
        }
    }

    private void putReady(int from, int bytes) {
        for (int i = 0; i < 4; i++) {
            if (from + i < ready.length) {
                ready[from + i] = (bytes >>> (24 - 8 * i)) & 255;
            }
        }
    }

    private void forget() {
        tree.clear();
        labels.clear();
        lines = 0;
        faultLine = NONE;
        line.rewind();
    }

    private static boolean isWhite(int c) {
        return c == TAB || c == LINE_FEED || c == RETURN || c == SPACE;
    }

    private static boolean isPunctuation(int c) {
        return c >= 33 && c <= 47 || c >= 58 && c <= 64 || c >= 91 && c <= 96 || c >= 123 && c <= 126;
    }

    /** A row of numbers that grows. Indexes are looked at here, so that no user of a row has to. */
    private static final class Row {
        private static final int FIRST_ROOM = 32;

        /** Above all that a full tape of tabs (four spaces each), and a full tape to look for, can need. */
        private static final int LIMIT = 16384;

        private int[] held;
        private int size;

        Row() {
            held = new int[FIRST_ROOM];
            size = 0;
        }

        int size() {
            return size;
        }

        int at(int i) {
            return i >= 0 && i < size && i < held.length ? held[i] : NONE;
        }

        void add(int value) {
            if (size >= LIMIT) {
                return;
            }
            if (size >= held.length) {
                held = Arrays.copyOf(held, 2 * held.length);
            }
            held[size] = value;
            size++;
        }

        void cut(int newSize) {
            if (newSize >= 0 && newSize < size) {
                size = newSize;
            }
        }
    }

    /** One block; what a kind does not have stays 0. */
    private static final class Block {
        private int kind;
        private int index;
        private int holder;
        private int number;
        private int loose;
        private int textFrom;
        private int textLength;
        private int infoFrom;
        private int infoLength;
        private int first;
        private int last;
        private int width;
        private int sign;

        /** The latest block seen in this one while looseness is looked for. */
        private int latest;

        void begin(int newKind, int newIndex, int newHolder, int line, int textAt) {
            kind = newKind;
            index = newIndex;
            holder = newHolder;
            number = 0;
            loose = 0;
            textFrom = textAt;
            textLength = 0;
            infoFrom = textAt;
            infoLength = 0;
            first = line;
            last = line;
            width = 0;
            sign = 0;
            latest = NONE;
        }

        int tell(int what) {
            switch (what) {
                case 0: return kind;
                case 1: return holder;
                case 2: return number;
                case 3: return loose;
                case 4: return textLength;
                case 5: return infoLength;
                case 6: return first;
                case 7: return last;
                case 8: return width;
                case 9: return sign;
                default: return NONE;
            }
        }
    }

    /**
     * The blocks, numbered as they begin. That is the order of the text with holders first, as a block
     * begins only in an open one; and a paragraph that goes away is always the one that began last.
     */
    private static final class Tree {
        private final ArrayList<Block> blocks;
        private final Block document;
        private final Row text;
        private int count;

        Tree() {
            blocks = new ArrayList<Block>();
            document = new Block();
            blocks.add(document);
            text = new Row();
            count = 0;
        }

        int size() {
            return count;
        }

        Block at(int k) {
            return k >= 0 && k < count && k < blocks.size() ? blocks.get(k) : null;
        }

        void clear() {
            count = 0;
            text.cut(0);
        }

        /** Blocks of earlier reads are used again, so that many reads make few objects. */
        Block add(int kind, int holder, int line) {
            if (count >= blocks.size()) {
                blocks.add(new Block());
            }
            Block b = blocks.get(count);
            b.begin(kind, count, holder, line, text.size());
            count++;
            return b;
        }

        void dropLast() {
            if (count > 0) {
                count--;
            }
        }

        boolean holdsSomething(Block b) {
            Block next = at(b.index + 1);
            return next != null && next.holder == b.index;
        }

        void finish() {
            for (int k = count - 1; k > 0; k--) {
                Block b = at(k);
                Block holder = b == null ? null : at(b.holder);
                if (holder != null) {
                    holder.last = Math.max(holder.last, b.last);
                }
            }
            for (int k = 1; k < count; k++) {
                Block b = at(k);
                Block holder = b == null ? null : at(b.holder);
                if (holder != null) {
                    lookForGap(b, holder);
                    holder.latest = k;
                }
            }
        }

        private void lookForGap(Block b, Block holder) {
            Block ahead = at(holder.latest);
            Block list = holder.kind == ITEM ? at(holder.holder) : holder;
            if (ahead != null && list != null && list.kind == LIST && b.first - ahead.last > 1) {
                list.loose = 1;
            }
        }
    }

    /** The line at work, its place, and the marks that can stand at that place. */
    private static final class Line {
        private static final int TAB_STOP = 4;
        private static final int HIGHEST_LEVEL = 6;
        private static final int SHORTEST_FENCE = 3;
        private static final int SHORTEST_RULE = 3;
        private static final int MOST_DIGITS = 9;
        private static final int WIDEST_GAP = 4;

        /** So many spaces at the place are too many for a mark. */
        private static final int TOO_FAR = 4;

        private final Row signs;
        private int tapeAt;
        private int place;
        private int indent;
        private int markSign;
        private int markLength;
        private int markNumber;

        Line() {
            signs = new Row();
        }

        void rewind() {
            tapeAt = 0;
        }

        /** False when the tape has no further line. */
        boolean takeNext(Row tape) {
            if (tapeAt >= tape.size()) {
                return false;
            }
            signs.cut(0);
            int i = tapeAt;
            while (i < tape.size() && tape.at(i) != LINE_FEED && tape.at(i) != RETURN) {
                addSign(tape.at(i));
                i++;
            }
            tapeAt = tape.at(i) == RETURN && tape.at(i + 1) == LINE_FEED ? i + 2 : i + 1;
            moveTo(0);
            return true;
        }

        private void addSign(int c) {
            if (c != TAB) {
                signs.add(c);
                return;
            }
            int spaces = TAB_STOP - signs.size() % TAB_STOP;
            for (int i = 0; i < spaces; i++) {
                signs.add(SPACE);
            }
        }

        int size() {
            return signs.size();
        }

        int at(int i) {
            return signs.at(i);
        }

        int place() {
            return place;
        }

        int indent() {
            return indent;
        }

        /** Where the first sign that is no space stands, from the place on. */
        int start() {
            return place + indent;
        }

        boolean isBlank() {
            return start() >= signs.size();
        }

        boolean isTooFar() {
            return indent >= TOO_FAR;
        }

        void moveTo(int newPlace) {
            place = Math.min(newPlace, signs.size());
            indent = 0;
            while (place + indent < signs.size() && signs.at(place + indent) == SPACE) {
                indent++;
            }
        }

        void moveOn(int signsFurther) {
            moveTo(place + signsFurther);
        }

        boolean hasQuoteMark() {
            return !isTooFar() && signs.at(start()) == '>';
        }

        /** False, and the place stays, if no quote's mark stands there. */
        boolean passQuoteMark() {
            if (!hasQuoteMark()) {
                return false;
            }
            int behind = start() + 1;
            moveTo(signs.at(behind) == SPACE ? behind + 1 : behind);
            return true;
        }

        /** 0 without a heading's mark. */
        int headingLevel() {
            int level = signs.at(start()) == '#' ? sameFrom(start()) : 0;
            return level <= HIGHEST_LEVEL && isSpaceOrEnd(start() + level) ? level : 0;
        }

        /** 0 without a fence that begins here. */
        int fenceLength() {
            int sign = signs.at(start());
            if (sign != '`' && sign != '~') {
                return 0;
            }
            int length = sameFrom(start());
            for (int i = start() + length; i < signs.size(); i++) {
                if (sign == '`' && signs.at(i) == '`') {
                    return 0;
                }
            }
            return length >= SHORTEST_FENCE ? length : 0;
        }

        boolean endsFence(int sign, int length) {
            if (isTooFar() || signs.at(start()) != sign) {
                return false;
            }
            int same = sameFrom(start());
            return same >= length && isBlankFrom(start() + same);
        }

        /** The level that this line gives to a paragraph ahead of it; 0 if it is no underline. */
        int underlineLevel() {
            int sign = signs.at(start());
            if (sign != '=' && sign != '-' || !isBlankFrom(start() + sameFrom(start()))) {
                return 0;
            }
            return sign == '=' ? 1 : 2;
        }

        boolean isRule() {
            int sign = signs.at(start());
            if (sign != '*' && sign != '-' && sign != '_') {
                return false;
            }
            int count = 0;
            for (int i = start(); i < signs.size(); i++) {
                if (signs.at(i) == sign) {
                    count++;
                } else if (signs.at(i) != SPACE) {
                    return false;
                }
            }
            return count >= SHORTEST_RULE;
        }

        /** Looks for an item's mark and keeps its sign, length and number. */
        boolean findMark() {
            int digits = 0;
            markNumber = 0;
            while (digits < MOST_DIGITS && isDigit(signs.at(start() + digits))) {
                markNumber = 10 * markNumber + signs.at(start() + digits) - '0';
                digits++;
            }
            markSign = signs.at(start() + digits);
            markLength = digits + 1;
            boolean fits = digits == 0
                ? markSign == '*' || markSign == '+' || markSign == '-'
                : markSign == '.' || markSign == ')';
            return fits && isSpaceOrEnd(start() + markLength);
        }

        int markSign() {
            return markSign;
        }

        int markNumber() {
            return markNumber;
        }

        /** Whether the mark that was found may stand behind a paragraph's line. */
        boolean markEndsParagraph() {
            return !isBlankFrom(start() + markLength) && (markLength == 1 || markNumber == 1);
        }

        int itemWidth() {
            int behind = start() + markLength;
            int spaces = spacesAt(behind);
            boolean isNear = spaces <= WIDEST_GAP && behind + spaces < signs.size();
            return indent + markLength + (isNear ? spaces : 1);
        }

        private int spacesAt(int from) {
            int i = from;
            while (i < signs.size() && signs.at(i) == SPACE) {
                i++;
            }
            return i - from;
        }

        private int sameFrom(int from) {
            int i = from;
            while (i < signs.size() && signs.at(i) == signs.at(from)) {
                i++;
            }
            return i - from;
        }

        private boolean isBlankFrom(int from) {
            return from + spacesAt(from) >= signs.size();
        }

        private boolean isSpaceOrEnd(int i) {
            return i >= signs.size() || signs.at(i) == SPACE;
        }

        private static boolean isDigit(int c) {
            return c >= '0' && c <= '9';
        }
    }

    /** Takes line after line: which open blocks go on, which begin, and where the rest comes to. */
    private static final class Reader {
        /** Beginnings that are no kinds of their own. */
        private static final int FENCED = 8;
        private static final int INDENTED = 9;
        private static final int UNDERLINED = 10;

        private static final int CODE_INDENT = 4;

        /** Above what one line can begin before it is too deep or done. */
        private static final int MOST_BEGINNINGS = 64;

        private final Tree tree;
        private final Labels labels;
        private final Line line;

        /** The open blocks from the document inwards, up to the tip. */
        private final Block[] open;
        private int tip;

        /** Where in the open blocks the one at hand stands: those behind it have not gone on. */
        private int hand;
        private int number;
        private boolean done;

        /** Of the fence of the open CODE: one CODE at most is open. */
        private int fenceLength;
        private int fenceIndent;

        Reader(Tree tree, Labels labels, Line line) {
            this.tree = tree;
            this.labels = labels;
            this.line = line;
            open = new Block[DEEPEST + 2];
            for (int i = 0; i < open.length; i++) {
                open[i] = tree.document;
            }
        }

        void start() {
            tree.add(DOCUMENT, NONE, 0);
            tip = 0;
            hand = 0;
        }

        /** Step 1: finds the block at hand. */
        void goOn(int lineNumber) {
            number = lineNumber;
            done = false;
            hand = 0;
            for (int i = 1; i <= tip && goesOn(openAt(i)); i++) {
                hand = i;
            }
        }

        /** Step 2: false if the line is too deep. */
        boolean lookForBeginnings() {
            for (int turn = 0; turn < MOST_BEGINNINGS && !done && kindAtHand() != CODE; turn++) {
                int beginning = beginningAtPlace();
                if (beginning == NONE) {
                    return true;
                }
                if (beginning == UNDERLINED) {
                    underline();
                    continue;
                }
                stepOutFor(beginning);
                close();
                if (!carryOut(beginning)) {
                    return false;
                }
            }
            return true;
        }

        /** Step 3. */
        void takeRest() {
            if (done) {
                return;
            }
            if (goesOnWithoutMarks()) {
                addToParagraph(openAt(tip));
                return;
            }
            if (!line.isBlank() && kindAtHand() == LIST) {
                hand--;
            }
            close();
            addRest();
        }

        void finish() {
            hand = 0;
            close();
        }

        private Block openAt(int i) {
            return i >= 0 && i < open.length ? open[i] : tree.document;
        }

        private int kindAtHand() {
            return openAt(hand).kind;
        }

        private boolean goesOn(Block b) {
            switch (b.kind) {
                case QUOTE: return line.passQuoteMark();
                case LIST: return true;
                case ITEM: return itemGoesOn(b);
                case PARAGRAPH: return !line.isBlank();
                case CODE: return b.sign != 0 ? fencedGoesOn(b) : indentedGoesOn();
                default: return false;
            }
        }

        private boolean itemGoesOn(Block item) {
            boolean isBlank = line.isBlank();
            if (isBlank ? !tree.holdsSomething(item) : line.indent() < item.width) {
                return false;
            }
            line.moveOn(isBlank ? line.indent() : item.width);
            return true;
        }

        private boolean fencedGoesOn(Block code) {
            if (!line.endsFence(code.sign, fenceLength)) {
                line.moveOn(Math.min(fenceIndent, line.indent()));
                return true;
            }
            code.last = number;
            tip--;
            done = true;
            return false;
        }

        private boolean indentedGoesOn() {
            if (line.indent() < CODE_INDENT && !line.isBlank()) {
                return false;
            }
            line.moveOn(Math.min(CODE_INDENT, line.indent()));
            return true;
        }

        /** A kind, or one of the beginnings that are no kinds; NONE if nothing begins at the place. */
        private int beginningAtPlace() {
            if (line.isBlank()) {
                return NONE;
            }
            if (line.isTooFar()) {
                return openAt(tip).kind == PARAGRAPH ? NONE : INDENTED;
            }
            if (line.hasQuoteMark()) {
                return QUOTE;
            }
            if (line.headingLevel() > 0) {
                return HEADING;
            }
            if (line.fenceLength() > 0) {
                return FENCED;
            }
            boolean inParagraph = kindAtHand() == PARAGRAPH;
            if (inParagraph && line.underlineLevel() > 0) {
                return UNDERLINED;
            }
            if (line.isRule()) {
                return RULE;
            }
            return line.findMark() && (!inParagraph || line.markEndsParagraph()) ? ITEM : NONE;
        }

        /** If definitions were all of the paragraph, the line is looked at again without it. */
        private void underline() {
            Block b = openAt(tip);
            if (!labels.settle(b)) {
                tree.dropLast();
                tip--;
                hand = tip;
                return;
            }
            b.kind = HEADING;
            b.number = line.underlineLevel();
            b.last = number;
            done = true;
        }

        private void stepOutFor(int beginning) {
            Block b = openAt(hand);
            boolean isOfKind = beginning == ITEM && b.sign == line.markSign();
            if (b.kind == PARAGRAPH || b.kind == LIST && !isOfKind) {
                hand--;
            }
        }

        /** Closes what stands inside the block at hand. */
        private void close() {
            if (tip <= hand) {
                return;
            }
            Block b = openAt(tip);
            if (b.kind == PARAGRAPH && !labels.settle(b)) {
                tree.dropLast();
            }
            tip = hand;
        }

        /** False if it would be too deep. */
        private boolean carryOut(int beginning) {
            switch (beginning) {
                case QUOTE: return beginQuote();
                case ITEM: return beginItem();
                case HEADING: beginHeading(); return true;
                case FENCED: beginFenced(); return true;
                case INDENTED: beginIndented(); return true;
                default: push(RULE); done = true; return true;
            }
        }

        private Block push(int kind) {
            Block b = tree.add(kind, openAt(tip).index, number);
            tip++;
            if (tip < open.length) {
                open[tip] = b;
            }
            hand = tip;
            return b;
        }

        private boolean beginQuote() {
            if (tip + 1 > DEEPEST) {
                return false;
            }
            push(QUOTE);
            return line.passQuoteMark();
        }

        private boolean beginItem() {
            boolean isInList = kindAtHand() == LIST;
            if (tip + (isInList ? 1 : 2) > DEEPEST) {
                return false;
            }
            if (!isInList) {
                Block list = push(LIST);
                list.sign = line.markSign();
                list.number = line.markNumber();
            }
            Block item = push(ITEM);
            item.width = line.itemWidth();
            line.moveOn(item.width);
            return true;
        }

        private void beginHeading() {
            Block b = push(HEADING);
            b.number = line.headingLevel();
            int from = afterSpaces(line.start() + b.number);
            int to = beforeSpaces(from, line.size());
            int hashes = to;
            while (hashes > from && line.at(hashes - 1) == '#') {
                hashes--;
            }
            if (hashes == from || line.at(hashes - 1) == SPACE) {
                to = beforeSpaces(from, hashes);
            }
            copy(from, to);
            b.textLength = tree.text.size() - b.textFrom;
            done = true;
        }

        private void beginFenced() {
            Block b = push(CODE);
            b.sign = line.at(line.start());
            fenceLength = line.fenceLength();
            fenceIndent = line.indent();
            int from = afterSpaces(line.start() + fenceLength);
            copy(from, beforeSpaces(from, line.size()));
            b.infoLength = tree.text.size() - b.infoFrom;
            b.textFrom = tree.text.size();
            done = true;
        }

        private void beginIndented() {
            push(CODE);
            line.moveOn(CODE_INDENT);
        }

        private int afterSpaces(int from) {
            int i = from;
            while (i < line.size() && line.at(i) == SPACE) {
                i++;
            }
            return i;
        }

        private int beforeSpaces(int from, int to) {
            int i = to;
            while (i > from && line.at(i - 1) == SPACE) {
                i--;
            }
            return i;
        }

        /** Where something has begun in this line, all that had not gone on is closed: hand and tip are one then. */
        private boolean goesOnWithoutMarks() {
            return hand < tip && !line.isBlank() && openAt(tip).kind == PARAGRAPH;
        }

        private void addRest() {
            Block b = openAt(hand);
            if (b.kind == CODE) {
                addToCode(b);
            } else if (b.kind == PARAGRAPH) {
                addToParagraph(b);
            } else if (!line.isBlank()) {
                addToParagraph(push(PARAGRAPH));
            }
        }

        private void addToParagraph(Block b) {
            if (b.textLength > 0) {
                tree.text.add(LINE_FEED);
            }
            copy(line.start(), line.size());
            b.textLength = tree.text.size() - b.textFrom;
            b.last = number;
        }

        /** Without a fence a blank line counts only when one that is not blank comes behind it. */
        private void addToCode(Block b) {
            copy(line.place(), line.size());
            tree.text.add(LINE_FEED);
            if (b.sign != 0 || !line.isBlank()) {
                b.textLength = tree.text.size() - b.textFrom;
                b.last = number;
            }
        }

        private void copy(int from, int to) {
            for (int i = from; i < to; i++) {
                tree.text.add(line.at(i));
            }
        }
    }

    /** The definitions that count, and how they are taken from a paragraph's text. */
    private static final class Labels {
        private static final int LABEL = 0;
        private static final int PARTS = 3;
        private static final int LONGEST_LABEL = 100;
        private static final int MOST_DECIMALS = 7;
        private static final int MOST_HEXADECIMALS = 6;
        private static final int LAST_CHARACTER = 1114111;
        private static final int FIRST_SURROGATE = 55296;
        private static final int LAST_SURROGATE = 57343;
        private static final int REPLACEMENT = 65533;
        private static final String NAMES = "amp;lt;gt;quot;apos;nbsp;";
        private static final int[] NAMED = {38, 60, 62, 34, 39, 160};

        private final Row text;

        /** Label, target and title of each definition, all in one row; ends tells where each part ends. */
        private final Row parts;
        private final Row ends;

        /** Where the parts of the definition that was found last stand in the text. */
        private int labelFrom;
        private int labelTo;
        private int targetFrom;
        private int targetTo;
        private int titleFrom;
        private int titleTo;

        /** The character that the latest reference tells. */
        private int told;

        Labels(Row text) {
            this.text = text;
            parts = new Row();
            ends = new Row();
        }

        void clear() {
            parts.cut(0);
            ends.cut(0);
        }

        int size() {
            return ends.size() / PARTS;
        }

        int partLength(int k, int what) {
            if (k < 0 || k >= size() || what < 0 || what >= PARTS) {
                return NONE;
            }
            return partTo(k, what) - partFrom(k, what);
        }

        int partSign(int k, int what, int i) {
            return i >= 0 && i < partLength(k, what) ? parts.at(partFrom(k, what) + i) : NONE;
        }

        /** For a k and a what that there are; so is partTo. */
        private int partFrom(int k, int what) {
            int part = PARTS * k + what;
            return part == 0 ? 0 : ends.at(part - 1);
        }

        private int partTo(int k, int what) {
            return ends.at(PARTS * k + what);
        }

        /** The definition of this label, which is made normal; NONE if there is none. */
        int withLabel(Row source, int from, int to) {
            int mark = parts.size();
            addNormal(source, from, to);
            int found = withLabelAt(mark);
            parts.cut(mark);
            return found;
        }

        /** The definition of the label that stands behind all parts, from the mark on. */
        private int withLabelAt(int mark) {
            int length = parts.size() - mark;
            for (int k = 0; k < size(); k++) {
                int from = partFrom(k, LABEL);
                if (partTo(k, LABEL) - from == length && isSame(from, mark, length)) {
                    return k;
                }
            }
            return NONE;
        }

        private boolean isSame(int one, int other, int length) {
            for (int i = 0; i < length; i++) {
                if (parts.at(one + i) != parts.at(other + i)) {
                    return false;
                }
            }
            return true;
        }

        private void addNormal(Row source, int from, int to) {
            int mark = parts.size();
            boolean isBehindWhite = false;
            for (int i = from; i < to; i++) {
                int c = source.at(i);
                if (isWhite(c)) {
                    isBehindWhite = true;
                    continue;
                }
                if (isBehindWhite && parts.size() > mark) {
                    parts.add(SPACE);
                }
                isBehindWhite = false;
                parts.add(c >= 'A' && c <= 'Z' ? c - 'A' + 'a' : c);
            }
        }

        /**
         * Takes the paragraph's definitions and the white at its end; false if nothing is left.
         * The paragraph is open, so its text is the last of all and ends where the row does.
         */
        boolean settle(Block paragraph) {
            int from = paragraph.textFrom;
            int behind = behindDefinition(from);
            for (int turn = 0; turn < TAPE_LIMIT && behind != NONE; turn++) {
                keep();
                from = behind;
                behind = behindDefinition(from);
            }
            int to = text.size();
            while (to > from && isWhite(text.at(to - 1))) {
                to--;
            }
            paragraph.textFrom = from;
            paragraph.textLength = to - from;
            return to > from;
        }

        /** Of definitions of one label, the first counts. */
        private void keep() {
            int mark = parts.size();
            addNormal(text, labelFrom, labelTo);
            if (withLabelAt(mark) != NONE) {
                parts.cut(mark);
                return;
            }
            ends.add(parts.size());
            addUnescaped(targetFrom, targetTo);
            ends.add(parts.size());
            addUnescaped(titleFrom, titleTo);
            ends.add(parts.size());
        }

        private void addUnescaped(int from, int to) {
            int i = from;
            while (i < to) {
                int c = text.at(i);
                int behind = c == '&' ? Math.max(behindNumber(i, to), behindName(i, to)) : NONE;
                if (behind > i) {
                    parts.add(told);
                    i = behind;
                } else if (c == '\\' && i + 1 < to && isPunctuation(text.at(i + 1))) {
                    parts.add(text.at(i + 1));
                    i += 2;
                } else {
                    parts.add(c);
                    i++;
                }
            }
        }

        /** The place behind the reference by number whose & stands there; NONE if there is none. */
        private int behindNumber(int from, int to) {
            boolean isHexadecimal = text.at(from + 2) == 'x' || text.at(from + 2) == 'X';
            int base = isHexadecimal ? 16 : 10;
            int most = isHexadecimal ? MOST_HEXADECIMALS : MOST_DECIMALS;
            int first = isHexadecimal ? from + 3 : from + 2;
            int value = 0;
            int i = first;
            while (i < to && i - first < most && digit(text.at(i), base) != NONE) {
                value = base * value + digit(text.at(i), base);
                i++;
            }
            if (text.at(from + 1) != '#' || i == first || i >= to || text.at(i) != ';') {
                return NONE;
            }
            boolean isCharacter = value > 0 && value <= LAST_CHARACTER
                && (value < FIRST_SURROGATE || value > LAST_SURROGATE);
            told = isCharacter ? value : REPLACEMENT;
            return i + 1;
        }

        private static int digit(int c, int base) {
            if (c >= '0' && c <= '9') {
                return c - '0';
            }
            if (base == 16 && c >= 'a' && c <= 'f') {
                return c - 'a' + 10;
            }
            return base == 16 && c >= 'A' && c <= 'F' ? c - 'A' + 10 : NONE;
        }

        /** The place behind the reference by name whose & stands there; NONE if there is none. */
        private int behindName(int from, int to) {
            int name = 0;
            int i = from + 1;
            boolean isSo = true;
            for (int n = 0; n < NAMES.length() && name < NAMED.length; n++) {
                isSo = isSo && i < to && text.at(i) == NAMES.charAt(n);
                i++;
                if (NAMES.charAt(n) != ';') {
                    continue;
                }
                if (isSo) {
                    told = NAMED[name];
                    return i;
                }
                name++;
                i = from + 1;
                isSo = true;
            }
            return NONE;
        }

        /** The place behind the definition that stands there; NONE if none does, as in all that follow. */
        private int behindDefinition(int from) {
            int colon = behindLabel(from);
            if (colon == NONE || text.at(colon) != ':') {
                return NONE;
            }
            int target = behindGap(colon + 1);
            int behind = text.at(target) == '<' ? behindAngles(target) : behindSigns(target);
            if (behind == NONE) {
                return NONE;
            }
            int title = behindGap(behind);
            int titleEnd = title > behind ? behindTitle(title) : NONE;
            int lineEnd = titleEnd == NONE ? NONE : behindLine(titleEnd);
            if (lineEnd != NONE) {
                return lineEnd;
            }
            titleTo = titleFrom;
            return behindLine(behind);
        }

        private int behindLabel(int from) {
            if (text.at(from) != '[') {
                return NONE;
            }
            boolean isAllWhite = true;
            int i = from + 1;
            while (i < text.size() && text.at(i) != ']') {
                if (text.at(i) == '[') {
                    return NONE;
                }
                isAllWhite = isAllWhite && isWhite(text.at(i));
                i += text.at(i) == '\\' ? 2 : 1;
            }
            if (i >= text.size() || isAllWhite || i - from - 1 > LONGEST_LABEL) {
                return NONE;
            }
            labelFrom = from + 1;
            labelTo = i;
            return i + 1;
        }

        private int behindGap(int from) {
            boolean isBehindLine = false;
            int i = from;
            while (i < text.size() && (text.at(i) == SPACE || text.at(i) == LINE_FEED && !isBehindLine)) {
                isBehindLine = isBehindLine || text.at(i) == LINE_FEED;
                i++;
            }
            return i;
        }

        private int behindLine(int from) {
            int i = from;
            while (i < text.size() && text.at(i) == SPACE) {
                i++;
            }
            if (i >= text.size()) {
                return i;
            }
            return text.at(i) == LINE_FEED ? i + 1 : NONE;
        }

        private int behindAngles(int from) {
            int i = from + 1;
            while (i < text.size() && text.at(i) != '>') {
                if (text.at(i) == '<' || text.at(i) == LINE_FEED) {
                    return NONE;
                }
                i += text.at(i) == '\\' && text.at(i + 1) != LINE_FEED ? 2 : 1;
            }
            if (i >= text.size()) {
                return NONE;
            }
            targetFrom = from + 1;
            targetTo = i;
            return i + 1;
        }

        private int behindSigns(int from) {
            int depth = 0;
            int i = from;
            while (i < text.size() && text.at(i) > SPACE && text.at(i) != DELETE) {
                if (text.at(i) == ')' && depth == 0) {
                    break;
                }
                depth += text.at(i) == '(' ? 1 : text.at(i) == ')' ? -1 : 0;
                i += text.at(i) == '\\' && isPunctuation(text.at(i + 1)) ? 2 : 1;
            }
            if (i == from || depth != 0) {
                return NONE;
            }
            targetFrom = from;
            targetTo = i;
            return i;
        }

        private int behindTitle(int from) {
            int sign = text.at(from);
            if (sign != '"' && sign != '\'' && sign != '(') {
                return NONE;
            }
            int last = sign == '(' ? ')' : sign;
            int i = from + 1;
            while (i < text.size() && text.at(i) != last) {
                if (text.at(i) == '(' && sign == '(') {
                    return NONE;
                }
                i += text.at(i) == '\\' ? 2 : 1;
            }
            if (i >= text.size()) {
                return NONE;
            }
            titleFrom = from + 1;
            titleTo = i;
            return i + 1;
        }
    }
}
