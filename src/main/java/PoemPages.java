/** Poems on pages, as ../shared/DOC.md promises it; the promises stand there by number. */
public final class PoemPages {
    public static final int NONE = -1, BAD = -2, STATE = -3, FULL = -4;

    private static final int FAULT = -2000;
    private static final int BLANK = 32, GREATEST_BYTE = 127;
    private static final int MAX_TEXT = 80, MAX_STEPS = 5, MAX_LETTERS = 16, MAX_WORDS = 40;
    private static final int MAX_LINES = 24, MAX_STATES = 8;
    /** Two rows of a line that follow one another, with the blank behind them, hold at least 8 of its 80 bytes. */
    private static final int MAX_ROWS = MAX_LINES * 20;
    private static final int LEAST_ROOM = 6;
    private static final int SHOWN_EACH = 5;
    private static final int GREATEST_PAGES = 99;

    private static final int WIDTH = 0, HEIGHT = 1, STEP = 2, RUN_OVER = 3, KEEP = 4, SETTINGS = 5;
    private static final int[] LEAST = {12, 4, 0, 0, 0};
    private static final int[] GREATEST = {60, 30, 6, 8, 30};
    private static final int[] AT_FIRST = {30, 12, 2, 4, 6};

    private static final int SQUARE = 0, WEDGE = 1, DIAMOND = 2, GLASS = 3, SHAPES = 4;

    private static final int LINE_PROPERTIES = 10, ROW_PROPERTIES = 9, PAGE_PROPERTIES = 5, COUNTS = 16;
    private static final int FIRST_SETTING_COUNT = 11;
    private static final long DIGEST_AT_FIRST = 805L, DIGEST_FACTOR = 31L;

    private final Text text;
    private final Poem poem;
    private final History history;
    private final Layout layout;
    /** Widths and heights are tried in a layout of their own, so that the one that stands need not be made again. */
    private final Layout trial;

    public PoemPages() {
        text = new Text();
        poem = new Poem();
        history = new History();
        layout = new Layout();
        trial = new Layout();
    }

    // ---- text

    public int type(int letter) {
        if (letter < 0 || letter > GREATEST_BYTE) {
            return BAD;
        }
        if (text.length >= MAX_TEXT) {
            return FULL;
        }
        text.append(letter);
        return text.length;
    }

    public int clear() {
        int length = text.length;
        text.length = 0;
        return length;
    }

    public int fault(boolean shape) {
        return shape ? text.shapeFault() : text.lineFault();
    }

    // ---- lines

    public int insert(int line) {
        if (line < 0 || line > poem.count) {
            return BAD;
        }
        int fault = text.lineFault();
        if (fault != NONE) {
            return FAULT - fault;
        }
        if (poem.count >= MAX_LINES) {
            return FULL;
        }
        history.keepState(poem);
        poem.putIn(line, text.toLine());
        layOut();
        return poem.count;
    }

    public int replace(int line) {
        Line old = poem.lineAt(line);
        if (old == null) {
            return BAD;
        }
        int fault = text.lineFault();
        if (fault != NONE) {
            return FAULT - fault;
        }
        history.keepState(poem);
        poem.exchange(line, text.toLine());
        layOut();
        return old.words.count;
    }

    public int remove(int line) {
        if (poem.lineAt(line) == null) {
            return BAD;
        }
        history.keepState(poem);
        poem.takeOut(line);
        layOut();
        return poem.count;
    }

    public int move(int from, int n, int to) {
        if (n < 1 || n > poem.count) {
            return BAD;
        }
        int others = poem.count - n;
        if (from < 0 || from > others || to < 0 || to > others) {
            return BAD;
        }
        history.keepState(poem);
        poem.moveLines(from, n, to);
        layOut();
        return layout.stanzaCount;
    }

    public int toggle(int line, boolean half) {
        Line old = poem.lineAt(line);
        if (old == null) {
            return BAD;
        }
        history.keepState(poem);
        boolean halfThen = half ? !old.half : old.half;
        boolean lastThen = half ? old.last : !old.last;
        poem.exchange(line, new Line(old.words, old.steps, halfThen, lastThen));
        layOut();
        return oneIf(half ? halfThen : lastThen);
    }

    public int line(int line, int what) {
        Line found = poem.lineAt(line);
        LineSpan span = layout.spanAt(line);
        if (found == null || span == null) {
            return BAD;
        }
        switch (what) {
            case 0: return found.words.letters;
            case 1: return found.words.count;
            case 2: return found.steps;
            case 3: return oneIf(found.half);
            case 4: return oneIf(span.leans);
            case 5: return oneIf(found.last);
            case 6: return span.number;
            case 7: return span.firstRow;
            case 8: return span.rows;
            case 9: return span.stanza;
            default: return BAD;
        }
    }

    public int letter(int line, int i) {
        Line found = poem.lineAt(line);
        if (found == null || i < 0) {
            return BAD;
        }
        return found.words.byteAt(i);
    }

    // ---- settings, history

    public int set(int what, int value) {
        if (what < 0 || what >= SETTINGS || value < element(LEAST, what) || value > element(GREATEST, what)) {
            return BAD;
        }
        int before = poem.setting(what);
        history.keepState(poem);
        poem.changeSetting(what, value);
        layOut();
        return before;
    }

    public int undo() {
        if (history.count == 0) {
            return STATE;
        }
        history.bringBack(poem);
        layOut();
        return history.count;
    }

    // ---- rows and pages

    public int row(int row, int what) {
        if (row < 0 || what < 0 || what >= ROW_PROPERTIES) {
            return BAD;
        }
        Row found = layout.rowAt(row);
        if (found == null) {
            return NONE;
        }
        switch (what) {
            case 0: return found.line;
            case 1: return found.part;
            case 2: return found.page;
            case 3: return found.place;
            case 4: return found.column;
            case 5: return found.length;
            case 6: return found.shown;
            case 7: return oneIf(found.withinWord);
            default: return found.end();
        }
    }

    public int at(int page, int place, int column) {
        Page found = layout.pageAt(page);
        if (found == null || place < 0 || place >= poem.setting(HEIGHT)) {
            return BAD;
        }
        if (column < 0 || column >= poem.setting(WIDTH)) {
            return BAD;
        }
        return byteInRow(layout.rowAtPlace(found, place), column);
    }

    public int page(int page, int what) {
        Page found = layout.pageAt(page);
        if (found == null) {
            return BAD;
        }
        switch (what) {
            case 0: return found.rows;
            case 1: return found.places;
            case 2: return oneIf(found.marked);
            case 3: return found.firstRow;
            case 4: return found.lines;
            default: return BAD;
        }
    }

    // ---- shapes

    public int distance(int stanza) {
        Stanza found = layout.stanzaAt(stanza);
        if (found == null) {
            return BAD;
        }
        int fault = text.shapeFault();
        if (fault != NONE) {
            return FAULT - fault;
        }
        return layout.distanceFrom(text.namedShape(), found);
    }

    public int shape(int stanza) {
        Stanza found = layout.stanzaAt(stanza);
        if (found == null) {
            return BAD;
        }
        int best = SQUARE;
        int least = layout.distanceFrom(SQUARE, found);
        for (int shape = SQUARE + 1; shape < SHAPES; shape++) {
            int distance = layout.distanceFrom(shape, found);
            if (distance < least) {
                best = shape;
                least = distance;
            }
        }
        return best;
    }

    // ---- trying; nothing changes

    public int bestWidth(int what) {
        if (what < 0 || what > 2) {
            return BAD;
        }
        if (poem.count == 0) {
            return STATE;
        }
        int best = NONE;
        int least = 0;
        for (int width = element(LEAST, WIDTH); width <= element(GREATEST, WIDTH); width++) {
            int number = numberWithWidth(width, what);
            if (best == NONE || number < least) {
                best = width;
                least = number;
            }
        }
        return best;
    }

    public int leastHeight(int pages) {
        if (pages < 1 || pages > GREATEST_PAGES) {
            return BAD;
        }
        trial.breakLines(poem, poem.setting(WIDTH));
        for (int height = element(LEAST, HEIGHT); height <= element(GREATEST, HEIGHT); height++) {
            trial.putOnPages(height, poem.setting(KEEP));
            if (trial.pageCount <= pages) {
                return height;
            }
        }
        return NONE;
    }

    // ---- numbers

    public int count(int what) {
        switch (what) {
            case 0: return poem.count;
            case 1: return layout.stanzaCount;
            case 2: return layout.rowCount;
            case 3: return layout.pageCount;
            case 4: return layout.runOvers();
            case 5: return layout.cuts();
            case 6: return layout.markedPages();
            case 7: return layout.lastNumber();
            case 8: return layout.greatestWidth(0, layout.rowCount);
            case 9: return history.count;
            case 10: return text.length;
            default: return countedSetting(what - FIRST_SETTING_COUNT, what);
        }
    }

    public long digest() {
        long hash = DIGEST_AT_FIRST;
        for (int what = 0; what < COUNTS; what++) {
            hash = mixed(hash, count(what));
        }
        hash = withLines(hash);
        hash = withRows(hash);
        hash = withPages(hash);
        hash = withPlaces(hash);
        for (int stanza = 0; stanza < layout.stanzaCount; stanza++) {
            hash = mixed(hash, shape(stanza));
        }
        for (int i = 0; i < text.length; i++) {
            hash = mixed(hash, text.byteAt(i));
        }
        return hash;
    }

    // ---- what the calls above share

    private void layOut() {
        layout.breakLines(poem, poem.setting(WIDTH));
        layout.putOnPages(poem.setting(HEIGHT), poem.setting(KEEP));
    }

    private int numberWithWidth(int width, int what) {
        trial.breakLines(poem, width);
        if (what == 1) {
            return trial.runOvers();
        }
        if (what == 2) {
            return trial.cuts();
        }
        trial.putOnPages(poem.setting(HEIGHT), poem.setting(KEEP));
        return trial.pageCount;
    }

    private int countedSetting(int setting, int what) {
        return what < FIRST_SETTING_COUNT || what >= COUNTS ? BAD : poem.setting(setting);
    }

    private int byteInRow(Row row, int column) {
        if (row == null || column < row.column || column >= row.end()) {
            return BLANK;
        }
        Line line = poem.lineAt(row.line);
        return line == null ? BLANK : line.words.byteAt(row.from + column - row.column);
    }

    private long withLines(long hash) {
        for (int k = 0; k < poem.count; k++) {
            for (int what = 0; what < LINE_PROPERTIES; what++) {
                hash = mixed(hash, line(k, what));
            }
        }
        return hash;
    }

    private long withRows(long hash) {
        for (int i = 0; i < layout.rowCount; i++) {
            for (int what = 0; what < ROW_PROPERTIES; what++) {
                hash = mixed(hash, row(i, what));
            }
        }
        return hash;
    }

    private long withPages(long hash) {
        for (int p = 0; p < layout.pageCount; p++) {
            for (int what = 0; what < PAGE_PROPERTIES; what++) {
                hash = mixed(hash, page(p, what));
            }
        }
        return hash;
    }

    private long withPlaces(long hash) {
        int width = poem.setting(WIDTH);
        for (int i = 0; i < layout.rowCount; i++) {
            Row row = layout.rowAt(i);
            for (int column = 0; column < width; column++) {
                hash = mixed(hash, byteInRow(row, column));
            }
        }
        return hash;
    }

    private static long mixed(long hash, int number) {
        return DIGEST_FACTOR * hash + number;
    }

    private static int oneIf(boolean so) {
        return so ? 1 : 0;
    }

    private static int element(int[] numbers, int i) {
        return numbers == null || i < 0 || i >= numbers.length ? 0 : numbers[i];
    }

    private static boolean isLetter(int b) {
        return b >= 'a' && b <= 'z';
    }

    private static String shapeName(int shape) {
        switch (shape) {
            case SQUARE: return "square";
            case WEDGE: return "wedge";
            case DIAMOND: return "diamond";
            case GLASS: return "glass";
            default: return "";
        }
    }

    /** The width that row i of n rows should have, the greatest of their widths being m. */
    private static int aim(int shape, int m, int i, int n) {
        if (n < 1) {
            return 0;
        }
        switch (shape) {
            case WEDGE: return m * (i + 1) / n;
            case DIAMOND: return Math.min(m, 2 * m * Math.min(i + 1, n - i) / (n + 1));
            case GLASS: return m * Math.max(i + 1, n - i) / n;
            default: return m;
        }
    }

    /** The text, which is read as a line or as the name of a shape. */
    private static final class Text {
        private final byte[] bytes = new byte[MAX_TEXT];
        int length = 0;

        void append(int letter) {
            if (length >= 0 && length < bytes.length) {
                bytes[length] = (byte) letter;
                length++;
            }
        }

        /** Outside the text NONE, which is neither a letter nor a sign, so that readers stop there. */
        int byteAt(int i) {
            return i < 0 || i >= length || i >= bytes.length ? NONE : bytes[i];
        }

        int lineFault() {
            int i = behindBlanks(0);
            if (byteAt(i) == '~') {
                i = behindBlanks(i + 1);
            }
            for (int steps = 0; steps < MAX_STEPS && byteAt(i) == '>'; steps++) {
                i = behindBlanks(i + 1);
            }
            if (!isLetter(byteAt(i))) {
                return i;
            }
            for (int words = 0; words < MAX_TEXT && isLetter(byteAt(i)); words++) {
                int end = behindLetters(i);
                if (end - i > MAX_LETTERS) {
                    return i + MAX_LETTERS;
                }
                i = behindBlanks(end);
            }
            if (byteAt(i) == '/') {
                i = behindBlanks(i + 1);
            }
            return i < length ? i : NONE;
        }

        int shapeFault() {
            if (namedShape() == NONE) {
                return behindBlanks(0);
            }
            int i = behindBlanks(behindLetters(behindBlanks(0)));
            return i < length ? i : NONE;
        }

        /** The shape that the first letters name, whatever stands behind them; or NONE. */
        int namedShape() {
            int from = behindBlanks(0);
            int to = behindLetters(from);
            for (int shape = 0; shape < SHAPES; shape++) {
                if (isBetween(from, to, shapeName(shape))) {
                    return shape;
                }
            }
            return NONE;
        }

        /** Reads a text that has no fault as a line. */
        Line toLine() {
            Words words = new Words();
            boolean half = false;
            boolean last = false;
            int steps = 0;
            for (int i = 0; i < length; i++) {
                int b = byteAt(i);
                if (isLetter(b)) {
                    words.add(b, !isLetter(byteAt(i - 1)));
                } else if (b == '~') {
                    half = true;
                } else if (b == '>') {
                    steps++;
                } else if (b == '/') {
                    last = true;
                }
            }
            return new Line(words, steps, half, last);
        }

        private int behindBlanks(int from) {
            int i = from;
            while (i < length && byteAt(i) == BLANK) {
                i++;
            }
            return i;
        }

        private int behindLetters(int from) {
            int i = from;
            while (i < length && isLetter(byteAt(i))) {
                i++;
            }
            return i;
        }

        private boolean isBetween(int from, int to, String name) {
            if (to - from != name.length()) {
                return false;
            }
            for (int i = 0; i < name.length(); i++) {
                if (byteAt(from + i) != name.charAt(i)) {
                    return false;
                }
            }
            return true;
        }
    }

    /** The words of a line as they stand, with one blank between them. */
    private static final class Words {
        private final byte[] bytes = new byte[MAX_TEXT];
        private final int[] lengths = new int[MAX_WORDS];
        private int length = 0;
        int count = 0;
        int letters = 0;

        void add(int letter, boolean beginsWord) {
            if (beginsWord) {
                if (count > 0) {
                    append(BLANK);
                }
                count++;
            }
            append(letter);
            letters++;
            if (count > 0 && count <= lengths.length) {
                lengths[count - 1]++;
            }
        }

        int byteAt(int i) {
            return i < 0 || i >= length || i >= bytes.length ? NONE : bytes[i];
        }

        int lengthOf(int word) {
            return element(lengths, word);
        }

        private void append(int letter) {
            if (length >= 0 && length < bytes.length) {
                bytes[length] = (byte) letter;
                length++;
            }
        }
    }

    /** A line never changes once it is made: the states of the history share it. */
    private static final class Line {
        final Words words;
        final int steps;
        final boolean half;
        final boolean last;

        Line(Words words, int steps, boolean half, boolean last) {
            this.words = words;
            this.steps = steps;
            this.half = half;
            this.last = last;
        }
    }

    /** A state: the lines and the settings. */
    private static final class Poem {
        private final Line[] lines = new Line[MAX_LINES];
        private final int[] settings = new int[SETTINGS];
        int count = 0;

        Poem() {
            for (int what = 0; what < settings.length; what++) {
                settings[what] = element(AT_FIRST, what);
            }
        }

        /** Null if there is no such line. */
        Line lineAt(int k) {
            return k < 0 || k >= count || k >= lines.length ? null : lines[k];
        }

        int setting(int what) {
            return element(settings, what);
        }

        void changeSetting(int what, int value) {
            if (what >= 0 && what < settings.length) {
                settings[what] = value;
            }
        }

        boolean beginsStanza(int k) {
            Line ahead = lineAt(k - 1);
            return ahead == null || ahead.last;
        }

        void exchange(int k, Line line) {
            if (k >= 0 && k < count && k < lines.length) {
                lines[k] = line;
            }
        }

        void putIn(int at, Line line) {
            if (at < 0 || at > count || count < 0 || count >= lines.length) {
                return;
            }
            for (int k = count; k > at; k--) {
                lines[k] = lines[k - 1];
            }
            lines[at] = line;
            count++;
        }

        void takeOut(int at) {
            if (at < 0 || at >= count || count > lines.length) {
                return;
            }
            count--;
            for (int k = at; k < count; k++) {
                lines[k] = lines[k + 1];
            }
            lines[count] = null;
        }

        /** The n lines go over one by one, each behind those that went before it. */
        void moveLines(int from, int n, int to) {
            for (int i = 0; i < n; i++) {
                if (to < from) {
                    moveLine(from + i, to + i);
                } else {
                    moveLine(from, to + n - 1);
                }
            }
        }

        void becomeLike(Poem other) {
            count = other.count;
            for (int k = 0; k < lines.length; k++) {
                lines[k] = other.lineAt(k);
            }
            for (int what = 0; what < settings.length; what++) {
                settings[what] = other.setting(what);
            }
        }

        private void moveLine(int from, int to) {
            Line line = lineAt(from);
            takeOut(from);
            putIn(to, line);
        }
    }

    /** The states before the latest changes, the oldest one first. */
    private static final class History {
        private final Poem[] states = new Poem[MAX_STATES];
        int count = 0;

        History() {
            for (int i = 0; i < states.length; i++) {
                states[i] = new Poem();
            }
        }

        void keepState(Poem poem) {
            if (count >= states.length) {
                dropOldest();
            }
            Poem kept = stateAt(count);
            if (kept != null) {
                kept.becomeLike(poem);
                count++;
            }
        }

        void bringBack(Poem poem) {
            Poem kept = stateAt(count - 1);
            if (kept != null) {
                poem.becomeLike(kept);
                count--;
            }
        }

        /** The object of the dropped state goes to the end, to be used again. */
        private void dropOldest() {
            Poem oldest = stateAt(0);
            for (int i = 1; i < states.length; i++) {
                states[i - 1] = states[i];
            }
            if (states.length > 0) {
                states[states.length - 1] = oldest;
            }
            count--;
        }

        private Poem stateAt(int i) {
            return i < 0 || i >= states.length ? null : states[i];
        }
    }

    /** A row; from is the index of its first byte among those of its line. */
    private static final class Row {
        int line;
        int part;
        int page;
        int place;
        int column;
        int from;
        int length;
        int shown;
        boolean withinWord;

        int end() {
            return column + length;
        }
    }

    /** What a line is by those ahead of it, and where its rows are. */
    private static final class LineSpan {
        boolean leans;
        int number;
        int stanza;
        int firstRow;
        int rows;
    }

    private static final class Stanza {
        int firstLine;
        int firstRow;
        int rows;
    }

    /** A page; lines are those whose first row stands on it. */
    private static final class Page {
        int firstRow;
        int rows;
        int places;
        int lines;
        boolean marked;
    }

    /** The rows, stanzas and pages of a poem. Its objects are made when first needed, and then used again. */
    private static final class Layout {
        private final Row[] rows = new Row[MAX_ROWS];
        private final LineSpan[] spans = new LineSpan[MAX_LINES];
        private final Stanza[] stanzas = new Stanza[MAX_LINES];
        private final Page[] pages = new Page[MAX_ROWS];
        int rowCount = 0;
        int stanzaCount = 0;
        int pageCount = 0;
        private int spanCount = 0;
        private int nextPlace = 0;

        Row rowAt(int i) {
            return i < 0 || i >= rowCount || i >= rows.length ? null : rows[i];
        }

        LineSpan spanAt(int k) {
            return k < 0 || k >= spanCount || k >= spans.length ? null : spans[k];
        }

        Stanza stanzaAt(int s) {
            return s < 0 || s >= stanzaCount || s >= stanzas.length ? null : stanzas[s];
        }

        Page pageAt(int p) {
            return p < 0 || p >= pageCount || p >= pages.length ? null : pages[p];
        }

        /** Null if no row stands at the place. */
        Row rowAtPlace(Page page, int place) {
            for (int i = page.firstRow; i < page.firstRow + page.rows; i++) {
                Row row = rowAt(i);
                if (row != null && row.place == place) {
                    return row;
                }
            }
            return null;
        }

        int runOvers() {
            return rowCount - spanCount;
        }

        int cuts() {
            int cuts = 0;
            for (int i = 0; i < rowCount; i++) {
                Row row = rowAt(i);
                cuts += oneIf(row != null && row.withinWord);
            }
            return cuts;
        }

        int markedPages() {
            int marked = 0;
            for (int p = 0; p < pageCount; p++) {
                Page page = pageAt(p);
                marked += oneIf(page != null && page.marked);
            }
            return marked;
        }

        int lastNumber() {
            LineSpan last = spanAt(spanCount - 1);
            return last == null ? 0 : last.number;
        }

        int greatestWidth(int firstRow, int n) {
            int greatest = 0;
            for (int i = firstRow; i < firstRow + n; i++) {
                greatest = Math.max(greatest, widthOf(i));
            }
            return greatest;
        }

        int distanceFrom(int shape, Stanza stanza) {
            int m = greatestWidth(stanza.firstRow, stanza.rows);
            int distance = 0;
            for (int i = 0; i < stanza.rows; i++) {
                distance += Math.abs(widthOf(stanza.firstRow + i) - aim(shape, m, i, stanza.rows));
            }
            return distance;
        }

        void breakLines(Poem poem, int width) {
            rowCount = 0;
            spanCount = 0;
            stanzaCount = 0;
            for (int k = 0; k < poem.count; k++) {
                Line line = poem.lineAt(k);
                if (line != null) {
                    Stanza stanza = poem.beginsStanza(k) ? addStanza(k) : lastStanza(k);
                    LineSpan span = addSpan(line, k > stanza.firstLine);
                    Row first = addFirstRow(line, k, span, poem, width);
                    int others = line.steps * poem.setting(STEP) + poem.setting(RUN_OVER);
                    putWords(line.words, first, Math.min(others, width - LEAST_ROOM), width);
                    span.rows = rowCount - span.firstRow;
                    stanza.rows += span.rows;
                }
            }
        }

        void putOnPages(int height, int keep) {
            pageCount = 0;
            nextPlace = 0;
            for (int s = 0; s < stanzaCount; s++) {
                Stanza stanza = stanzaAt(s);
                if (stanza != null) {
                    passOver(stanza, height, keep);
                    putStanza(stanza, height);
                }
            }
            for (int p = 0; p < pageCount; p++) {
                Page page = pageAt(p);
                if (page != null) {
                    page.marked = beginsWithStanza(pageAt(p + 1));
                }
            }
        }

        private Row addFirstRow(Line line, int k, LineSpan span, Poem poem, int width) {
            int column = span.leans ? widthOf(rowCount - 1) + 1 : line.steps * poem.setting(STEP);
            Row row = addRow(k, Math.min(column, width - LEAST_ROOM), 0);
            row.shown = !span.leans && span.number % SHOWN_EACH == 0 ? span.number : 0;
            return row;
        }

        private void putWords(Words words, Row first, int column, int width) {
            Row row = first;
            int from = 0;
            for (int w = 0; w < words.count; w++) {
                int length = words.lengthOf(w);
                if (row.length > 0 && row.end() + 1 + length <= width) {
                    row.length += 1 + length;
                } else {
                    if (row.length > 0) {
                        row = addRow(row.line, column, from);
                    }
                    row = putWord(length, row, column, width);
                }
                from += length + 1;
            }
        }

        /** Puts a word at the beginning of a row, cuts it as often as it is too long, and tells its last row. */
        private Row putWord(int length, Row first, int column, int width) {
            Row row = first;
            int left = length;
            for (int cuts = 0; cuts < MAX_LETTERS && left > width - row.column; cuts++) {
                row.length = width - row.column;
                left -= row.length;
                row = addRow(row.line, column, row.from + row.length);
                row.withinWord = true;
            }
            row.length = left;
            return row;
        }

        /** In place of the place that is passed over the page is closed, if a new one is to begin. */
        private void passOver(Stanza stanza, int height, int keep) {
            LineSpan first = spanAt(stanza.firstLine);
            if (pageCount == 0 || first == null) {
                return;
            }
            int behind = height - nextPlace - 1;
            boolean kept = stanza.rows <= keep && stanza.rows <= height;
            if (behind < first.rows || kept && behind < stanza.rows) {
                closePage(height);
            } else {
                nextPlace++;
            }
        }

        private void putStanza(Stanza stanza, int height) {
            for (int i = stanza.firstRow; i < stanza.firstRow + stanza.rows; i++) {
                Row row = rowAt(i);
                LineSpan span = row == null ? null : spanAt(row.line);
                if (span != null) {
                    boolean beginsLine = row.part == 0 && i > stanza.firstRow;
                    if (beginsLine && height - nextPlace < span.rows) {
                        closePage(height);
                    }
                    putRow(row, i, height);
                }
            }
        }

        private void putRow(Row row, int i, int height) {
            Page page = nextPlace < height ? pageAt(pageCount - 1) : null;
            if (page == null) {
                page = addPage(i);
                nextPlace = 0;
            }
            row.page = pageCount - 1;
            row.place = nextPlace;
            nextPlace++;
            page.rows++;
            page.places = nextPlace;
            page.lines += oneIf(row.part == 0);
        }

        /** A new page begins with the next row only, so that no page is ever empty. */
        private void closePage(int height) {
            nextPlace = height;
        }

        private boolean beginsWithStanza(Page page) {
            if (page == null) {
                return false;
            }
            Row row = rowAt(page.firstRow);
            LineSpan span = row == null ? null : spanAt(row.line);
            Stanza stanza = span == null ? null : stanzaAt(span.stanza);
            return stanza != null && stanza.firstRow == page.firstRow;
        }

        private int widthOf(int i) {
            Row row = rowAt(i);
            return row == null ? 0 : row.end();
        }

        private Row addRow(int line, int column, int from) {
            Row ahead = rowAt(rowCount - 1);
            int part = ahead != null && ahead.line == line ? ahead.part + 1 : 0;
            if (rowCount < 0 || rowCount >= rows.length) {
                return new Row();
            }
            Row row = rows[rowCount];
            if (row == null) {
                row = new Row();
                rows[rowCount] = row;
            }
            rowCount++;
            row.line = line;
            row.part = part;
            row.column = column;
            row.from = from;
            row.length = 0;
            row.shown = 0;
            row.withinWord = false;
            return row;
        }

        private LineSpan addSpan(Line line, boolean behindAnother) {
            int ahead = lastNumber();
            if (spanCount < 0 || spanCount >= spans.length) {
                return new LineSpan();
            }
            LineSpan span = spans[spanCount];
            if (span == null) {
                span = new LineSpan();
                spans[spanCount] = span;
            }
            spanCount++;
            span.leans = line.half && behindAnother;
            span.number = span.leans ? ahead : ahead + 1;
            span.stanza = stanzaCount - 1;
            span.firstRow = rowCount;
            return span;
        }

        private Stanza addStanza(int firstLine) {
            if (stanzaCount < 0 || stanzaCount >= stanzas.length) {
                return new Stanza();
            }
            Stanza stanza = stanzas[stanzaCount];
            if (stanza == null) {
                stanza = new Stanza();
                stanzas[stanzaCount] = stanza;
            }
            stanzaCount++;
            stanza.firstLine = firstLine;
            stanza.firstRow = rowCount;
            stanza.rows = 0;
            return stanza;
        }

        private Stanza lastStanza(int k) {
            Stanza last = stanzaAt(stanzaCount - 1);
            return last == null ? addStanza(k) : last;
        }

        private Page addPage(int firstRow) {
            if (pageCount < 0 || pageCount >= pages.length) {
                return new Page();
            }
            Page page = pages[pageCount];
            if (page == null) {
                page = new Page();
                pages[pageCount] = page;
            }
            pageCount++;
            page.firstRow = firstRow;
            page.rows = 0;
            page.places = 0;
            page.lines = 0;
            page.marked = false;
            return page;
        }
    }
}
