/** Each promise of the document by hand: ordinary inputs, the edges that it names, and wrong inputs. */
public final class PromiseTest {
    private static final int NONE = -1, BAD = -2, STATE = -3, FULL = -4;
    private static final int MIN = Integer.MIN_VALUE, MAX = Integer.MAX_VALUE;
    private static final int[] OUT = {MIN, -1, MAX};
    private static int wrong = 0;
    private static String promise = "";

    public static void main(String[] args) {
        newObject();
        type();
        clear();
        faultOfLines();
        faultOfShapes();
        insert();
        replace();
        remove();
        move();
        toggle();
        line();
        letter();
        set();
        undo();
        rowsBroken();
        rowsOfHalfLines();
        rowNumbers();
        rowsAtMost();
        at();
        pagesOfStanzas();
        pagesOfLongLines();
        pageProperties();
        distance();
        shape();
        bestWidth();
        leastHeight();
        count();
        digest();
        constants();
        System.out.println(wrong == 0 ? "every promise is kept" : wrong + " answers are not as due");
        if (wrong != 0) {
            System.exit(1);
        }
    }

    private static void due(String what, long got, long want) {
        if (got != want) {
            wrong++;
            System.out.println(promise + ": " + what + " answered " + got + ", due is " + want);
        }
    }

    private static PoemPages text(PoemPages x, String text) {
        x.clear();
        for (int i = 0; i < text.length(); i++) {
            x.type(text.charAt(i));
        }
        return x;
    }

    /** Puts lines behind those that are there. */
    private static PoemPages lines(PoemPages x, String... lines) {
        for (String line : lines) {
            int before = x.count(0);
            due("insert " + line, text(x, line).insert(before), before + 1);
        }
        return x;
    }

    private static PoemPages poem(String... lines) {
        return lines(new PoemPages(), lines);
    }

    private static PoemPages with(PoemPages x, int... settings) {
        for (int i = 0; i < settings.length; i++) {
            x.set(i, settings[i]);
        }
        return x;
    }

    private static void rows(PoemPages x, int what, int... want) {
        due("count(2)", x.count(2), want.length);
        for (int i = 0; i < want.length; i++) {
            due("row(" + i + ", " + what + ")", x.row(i, what), want[i]);
        }
    }

    private static void pages(PoemPages x, int what, int... want) {
        due("count(3)", x.count(3), want.length);
        for (int i = 0; i < want.length; i++) {
            due("page(" + i + ", " + what + ")", x.page(i, what), want[i]);
        }
    }

    private static void each(PoemPages x, int what, int... want) {
        due("count(0)", x.count(0), want.length);
        for (int i = 0; i < want.length; i++) {
            due("line(" + i + ", " + what + ")", x.line(i, what), want[i]);
        }
    }

    /** The lines by their first letters. */
    private static String order(PoemPages x) {
        StringBuilder all = new StringBuilder();
        for (int k = 0; k < x.count(0); k++) {
            all.append((char) x.letter(k, 0));
        }
        return all.toString();
    }

    private static void order(String what, PoemPages x, String want) {
        due(what + " makes " + order(x) + ", due is " + want, order(x).equals(want) ? 1 : 0, 1);
    }

    private static void newObject() {
        promise = "1 A new object";
        PoemPages x = new PoemPages();
        int[] counts = {0, 0, 0, 0, 0, 0, 0, 0, 0, 0, 0, 30, 12, 2, 4, 6};
        for (int i = 0; i < counts.length; i++) {
            due("count(" + i + ")", x.count(i), counts[i]);
        }
        due("row(0, 0)", x.row(0, 0), NONE);
        due("fault(false)", x.fault(false), 0);
        due("undo()", x.undo(), STATE);
        PoemPages y = poem("a");
        due("lines of another object", x.count(0), 0);
        due("and of that one", y.count(0), 1);
    }

    private static void type() {
        promise = "2 type";
        PoemPages x = new PoemPages();
        for (int letter : new int[] {MIN, -1, 128, MAX}) {
            due("type(" + letter + ")", x.type(letter), BAD);
        }
        due("type(0)", x.type(0), 1);
        due("type(127)", x.type(127), 2);
        for (int i = 3; i <= 80; i++) {
            due("type(97)", x.type('a'), i);
        }
        due("type(97) into a full text", x.type('a'), FULL);
        due("type(128) into a full text", x.type(128), BAD);
        due("count(10)", x.count(10), 80);
        due("type is no change", x.count(9), 0);
    }

    private static void clear() {
        promise = "3 clear";
        PoemPages x = new PoemPages();
        due("clear()", x.clear(), 0);
        text(x, "abc");
        due("clear()", x.clear(), 3);
        due("clear()", x.clear(), 0);
        due("type(97)", x.type('a'), 1);
        due("clear is no change", x.count(9), 0);
    }

    private static void lineFault(String text, int want) {
        due("fault(false) of \"" + text + "\"", text(new PoemPages(), text).fault(false), want);
    }

    private static void faultOfLines() {
        promise = "4 fault";
        String word = "abcdefghijklmnop";
        for (String good : new String[] {"a", "~a", ">a", "a/", "~>>>>>a b/", " ~ > > a  b / ", word + " " + word, "az", "~>a/"}) {
            lineFault(good, NONE);
        }
        lineFault("", 0);
        lineFault("   ", 3);
        lineFault("~", 1);
        lineFault("~ > ", 4);
        lineFault(">>>>>", 5);
        lineFault(">>>>>>", 5);
        lineFault(" > > > > > >a", 11);
        lineFault("~~a", 1);
        lineFault("a~", 1);
        lineFault(">~a", 1);
        lineFault("a > b", 2);
        lineFault("/", 0);
        lineFault("~/", 1);
        lineFault("a//", 2);
        lineFault("a/ b", 3);
        lineFault("a / >", 4);
        lineFault("a / \t", 4);
        lineFault("A", 0);
        lineFault("aB", 1);
        lineFault("a`", 1);
        lineFault("a{", 1);
        lineFault("a b1c", 3);
        lineFault("\0", 0);
        lineFault("a\177", 1);
        lineFault(word + "q", 16);
        lineFault("~ > x " + word + "q/", 22);
        lineFault(" ".repeat(79) + "a", NONE);
        lineFault(" ".repeat(80), 80);
        lineFault("a" + " ".repeat(79), NONE);
    }

    private static void shapeFault(String text, int want) {
        due("fault(true) of \"" + text + "\"", text(new PoemPages(), text).fault(true), want);
    }

    private static void faultOfShapes() {
        promise = "4 fault";
        for (String good : new String[] {"square", "wedge", "diamond", "glass", "  square", "wedge  ", " glass "}) {
            shapeFault(good, NONE);
        }
        shapeFault("", 0);
        shapeFault("  ", 2);
        shapeFault("squar", 0);
        shapeFault("  squares", 2);
        shapeFault("glas", 0);
        shapeFault("blass", 0);
        shapeFault("glasz", 0);
        shapeFault(" edge ", 1);
        shapeFault("Square", 0);
        shapeFault(" 1", 1);
        shapeFault("sQuare", 0);
        shapeFault("square/", 6);
        shapeFault("square square", 7);
        shapeFault("diamonD", 0);
        shapeFault("diamond D", 8);
        shapeFault("~glass", 0);
        shapeFault("squarewedge", 0);
        shapeFault("a".repeat(80), 0);
    }

    private static void insert() {
        promise = "5 insert";
        PoemPages x = poem("a", "c");
        text(x, "b");
        due("insert(1)", x.insert(1), 3);
        order("insert(1)", x, "abc");
        due("the text stays", x.count(10), 1);
        due("insert(0) again", x.insert(0), 4);
        order("insert(0)", x, "babc");
        due("insert(4)", x.insert(4), 5);
        order("insert(4)", x, "babcb");
        due("states", x.count(9), 5);
        due("insert(6)", x.insert(6), BAD);
        for (int out : OUT) {
            due("insert(" + out + ")", x.insert(out), BAD);
        }
        text(x, "b?");
        due("a fault", x.insert(0), -2001);
        due("BAD ahead of a fault", x.insert(6), BAD);
        text(x, " ".repeat(80));
        due("the greatest fault", x.insert(0), -2080);
        due("errors change nothing", x.count(9), 5);
        order("errors", x, "babcb");
        text(x, "z");
        for (int n = 6; n <= 24; n++) {
            due("insert(0)", x.insert(0), n);
        }
        due("the 25th line", x.insert(0), FULL);
        due("BAD ahead of FULL", x.insert(25), BAD);
        text(x, "z:");
        due("a fault ahead of FULL", x.insert(24), -2001);
        due("count(0)", x.count(0), 24);
    }

    private static void replace() {
        promise = "6 replace";
        PoemPages x = poem("a b c", "~ > d /");
        text(x, "> e f");
        due("replace(1)", x.replace(1), 1);
        each(x, 0, 3, 2);
        each(x, 1, 3, 2);
        each(x, 2, 0, 1);
        each(x, 3, 0, 0);
        each(x, 5, 0, 0);
        due("the text stays", x.count(10), 5);
        due("replace(0)", x.replace(0), 3);
        order("replace", x, "ee");
        due("states", x.count(9), 4);
        due("replace(2)", x.replace(2), BAD);
        for (int out : OUT) {
            due("replace(" + out + ")", x.replace(out), BAD);
        }
        text(x, "~");
        due("a fault", x.replace(0), -2001);
        due("BAD ahead of a fault", x.replace(2), BAD);
        due("errors change nothing", x.count(9), 4);
        PoemPages full = new PoemPages();
        for (int n = 0; n < 24; n++) {
            text(full, "z").insert(0);
        }
        text(full, "y");
        due("replace in a full poem", full.replace(23), 1);
        due("undo()", full.undo(), 7);
        due("letter(23, 0)", full.letter(23, 0), 'z');
    }

    private static void remove() {
        promise = "7 remove";
        PoemPages x = poem("a", "b", "c", "d");
        due("remove(1)", x.remove(1), 3);
        order("remove(1)", x, "acd");
        due("remove(2)", x.remove(2), 2);
        order("remove(2)", x, "ac");
        due("remove(2)", x.remove(2), BAD);
        for (int out : OUT) {
            due("remove(" + out + ")", x.remove(out), BAD);
        }
        due("states", x.count(9), 6);
        due("remove(0)", x.remove(0), 1);
        due("remove(0)", x.remove(0), 0);
        due("rows", x.count(2), 0);
        due("pages", x.count(3), 0);
        due("stanzas", x.count(1), 0);
        due("remove(0) without lines", x.remove(0), BAD);
        due("undo()", x.undo(), 7);
        order("undo()", x, "c");
    }

    private static void move() {
        promise = "8 move";
        PoemPages x = poem("a", "b", "c", "d", "e /", "f");
        due("move(0, 2, 1)", x.move(0, 2, 1), 2);
        order("move(0, 2, 1)", x, "cabdef");
        due("move(4, 2, 1)", x.move(4, 2, 1), 2);
        order("move(4, 2, 1)", x, "cefabd");
        due("move(1, 1, 5)", x.move(1, 1, 5), 1);
        order("move(1, 1, 5)", x, "cfabde");
        due("what a line is goes with it", x.line(5, 5), 1);
        due("states", x.count(9), 8);
        due("move(0, 6, 0)", x.move(0, 6, 0), 1);
        order("move(0, 6, 0)", x, "cfabde");
        due("move(2, 3, 2)", x.move(2, 3, 2), 1);
        order("move(2, 3, 2)", x, "cfabde");
        due("move(5, 1, 0)", x.move(5, 1, 0), 2);
        order("move(5, 1, 0)", x, "ecfabd");
        due("move(1, 5, 0)", x.move(1, 5, 0), 1);
        order("move(1, 5, 0)", x, "cfabde");
        x.undo();
        order("a move is a change", x, "ecfabd");
        x.undo();
        x.undo();
        order("also one to the same place", x, "cfabde");
        int[][] bad = {{0, 0, 0}, {0, -1, 0}, {0, 7, 0}, {5, 2, 0}, {6, 1, 0}, {-1, 1, 0}, {0, 1, 6}, {0, 2, 5}, {0, 6, 1},
            {0, 1, -1}, {1, MAX, 0}, {MAX, MAX, 0}, {MAX, 1, 0}, {MIN, 1, 0}, {0, MIN, 0}, {0, 1, MAX}, {0, 1, MIN}, {5, MAX - 3, 0}};
        for (int[] b : bad) {
            due("move(" + b[0] + ", " + b[1] + ", " + b[2] + ")", x.move(b[0], b[1], b[2]), BAD);
        }
        order("errors", x, "cfabde");
        due("move(0, 1, 5)", x.move(0, 1, 5), 2);
    }

    private static void toggle() {
        promise = "9 toggle";
        PoemPages x = poem("a", "~ b", "c /", "d");
        due("toggle(0, true)", x.toggle(0, true), 1);
        due("toggle(1, true)", x.toggle(1, true), 0);
        due("toggle(2, false)", x.toggle(2, false), 0);
        due("toggle(3, false)", x.toggle(3, false), 1);
        each(x, 3, 1, 0, 0, 0);
        each(x, 5, 0, 0, 0, 1);
        due("stanzas", x.count(1), 1);
        due("toggle(2, false)", x.toggle(2, false), 1);
        due("stanzas", x.count(1), 2);
        due("toggle(2, true)", x.toggle(2, true), 1);
        each(x, 5, 0, 0, 1, 1);
        due("toggle(2, true)", x.toggle(2, true), 0);
        due("letters stay", x.letter(2, 0), 'c');
        due("toggle(4, true)", x.toggle(4, true), BAD);
        for (int out : OUT) {
            due("toggle(" + out + ", false)", x.toggle(out, false), BAD);
        }
        due("states", x.count(9), 8);
        x.undo();
        x.undo();
        x.undo();
        due("toggle is a change", x.line(2, 5), 0);
    }

    private static void line() {
        promise = "10 line";
        PoemPages x = poem("~ the sea", ">> sang   on /", "~ and on", "~ > the", "last one");
        with(x, 12);
        each(x, 0, 6, 6, 5, 3, 7);
        each(x, 1, 2, 2, 2, 1, 2);
        each(x, 2, 0, 2, 0, 1, 0);
        each(x, 3, 1, 0, 1, 1, 0);
        each(x, 4, 0, 0, 0, 1, 0);
        each(x, 5, 0, 1, 0, 0, 0);
        each(x, 6, 1, 2, 3, 3, 4);
        each(x, 7, 0, 1, 2, 3, 4);
        each(x, 8, 1, 1, 1, 1, 1);
        each(x, 9, 0, 0, 1, 1, 1);
        x.toggle(4, true);
        each(x, 4, 0, 0, 0, 1, 1);
        each(x, 6, 1, 2, 3, 3, 3);
        each(x, 8, 1, 1, 1, 1, 2);
        due("line(0, 10)", x.line(0, 10), BAD);
        due("line(5, 0)", x.line(5, 0), BAD);
        for (int out : OUT) {
            due("line(" + out + ", 0)", x.line(out, 0), BAD);
            due("line(0, " + out + ")", x.line(0, out), BAD);
        }
        PoemPages y = poem("a".repeat(16) + " " + "b".repeat(16) + " " + "c".repeat(16) + " " + "d".repeat(16) + " " + "e".repeat(12));
        due("a text without a blank place", y.line(0, 0), 76);
        PoemPages z = poem("a ".repeat(40));
        due("letters", z.line(0, 0), 40);
        due("words", z.line(0, 1), 40);
        due("rows", z.line(0, 8), 3);
    }

    private static void letter() {
        promise = "11 letter";
        PoemPages x = poem(" ~ > ab    c/ ", "d");
        due("letter(0, 0)", x.letter(0, 0), 'a');
        due("letter(0, 1)", x.letter(0, 1), 'b');
        due("letter(0, 2)", x.letter(0, 2), 32);
        due("letter(0, 3)", x.letter(0, 3), 'c');
        due("letter(0, 4)", x.letter(0, 4), NONE);
        due("letter(0, MAX)", x.letter(0, MAX), NONE);
        due("letter(1, 1)", x.letter(1, 1), NONE);
        due("letter(0, -1)", x.letter(0, -1), BAD);
        due("letter(0, MIN)", x.letter(0, MIN), BAD);
        due("letter(2, 0)", x.letter(2, 0), BAD);
        due("letter(2, 99)", x.letter(2, 99), BAD);
        for (int out : OUT) {
            due("letter(" + out + ", 0)", x.letter(out, 0), BAD);
        }
        PoemPages y = poem("a ".repeat(39) + "xy");
        due("letter(0, 79)", y.letter(0, 79), 'y');
        due("letter(0, 80)", y.letter(0, 80), NONE);
    }

    private static void set() {
        promise = "12 set";
        int[] least = {12, 4, 0, 0, 0}, greatest = {60, 30, 6, 8, 30}, first = {30, 12, 2, 4, 6};
        PoemPages x = new PoemPages();
        for (int w = 0; w < 5; w++) {
            due("set(" + w + ", least)", x.set(w, least[w]), first[w]);
            due("set(" + w + ", greatest)", x.set(w, greatest[w]), least[w]);
            due("set(" + w + ", less)", x.set(w, least[w] - 1), BAD);
            due("set(" + w + ", more)", x.set(w, greatest[w] + 1), BAD);
            due("set(" + w + ", MIN)", x.set(w, MIN), BAD);
            due("set(" + w + ", MAX)", x.set(w, MAX), BAD);
            due("count", x.count(11 + w), greatest[w]);
        }
        due("set(5, 4)", x.set(5, 4), BAD);
        due("set(5, 0)", x.set(5, 0), BAD);
        for (int out : OUT) {
            due("set(" + out + ", 12)", x.set(out, 12), BAD);
            due("set(" + out + ", 0)", x.set(out, 0), BAD);
        }
        due("states", x.count(9), 8);
        due("the same value", x.set(4, 30), 30);
        due("undo()", x.undo(), 7);
        due("is a change, too", x.count(15), 30);
        due("undo()", x.undo(), 6);
        due("count(15)", x.count(15), 0);
    }

    private static void undo() {
        promise = "13 undo";
        PoemPages x = new PoemPages();
        due("undo()", x.undo(), STATE);
        lines(x, "a", "b /");
        x.set(0, 20);
        x.toggle(0, true);
        x.move(0, 1, 1);
        text(x, "c d");
        x.replace(0);
        x.remove(1);
        due("states", x.count(9), 7);
        text(x, "text");
        due("undo()", x.undo(), 6);
        order("undo of remove", x, "ca");
        due("undo()", x.undo(), 5);
        order("undo of replace", x, "ba");
        due("the end of a stanza comes back", x.line(0, 5), 1);
        due("undo()", x.undo(), 4);
        order("undo of move", x, "ab");
        due("undo()", x.undo(), 3);
        due("undo of toggle", x.line(0, 3), 0);
        due("width", x.count(11), 20);
        due("undo()", x.undo(), 2);
        due("undo of set", x.count(11), 30);
        due("undo()", x.undo(), 1);
        due("undo()", x.undo(), 0);
        due("lines", x.count(0), 0);
        due("rows", x.count(2), 0);
        due("undo()", x.undo(), STATE);
        due("the text is no part of the state", x.count(10), 4);

        PoemPages y = new PoemPages();
        for (int value = 21; value <= 32; value++) {
            y.set(0, value);
            due("states", y.count(9), Math.min(8, value - 20));
        }
        for (int value = 31; value >= 24; value--) {
            due("undo()", y.undo(), value - 24);
            due("width", y.count(11), value);
        }
        due("the oldest ones are dropped", y.undo(), STATE);
        due("width", y.count(11), 24);
        y.set(0, 40);
        due("undo() of a change after undo()", y.undo(), 0);
        due("width", y.count(11), 24);
    }

    private static void rowsBroken() {
        promise = "14 row";
        PoemPages x = with(poem("> abcd efg hij klm nop", "abcdefghijklmnop q"), 16, 30);
        // the base is 2, the run-over makes it 6; width 16
        rows(x, 0, 0, 0, 1, 1);
        rows(x, 1, 0, 1, 0, 1);
        rows(x, 3, 0, 1, 2, 3);
        rows(x, 4, 2, 6, 0, 4);
        rows(x, 5, 12, 7, 16, 1);
        rows(x, 7, 0, 0, 0, 0);
        rows(x, 8, 14, 13, 16, 5);
        x.set(0, 14);
        // "abcd efg hij" ends at the column 13 just so; a word of 16 is cut behind its 14th letter
        rows(x, 4, 2, 6, 0, 4);
        rows(x, 5, 12, 7, 14, 4);
        rows(x, 7, 0, 0, 0, 1);
        x.set(0, 13);
        rows(x, 5, 8, 7, 3, 13, 5);
        rows(x, 1, 0, 1, 2, 0, 1);
        rows(x, 7, 0, 0, 0, 0, 1);
        rows(x, 4, 2, 6, 6, 0, 4);

        // none begins behind the width - 6, and a rest goes on as if it was a word
        PoemPages y = with(poem(">>>>> abcdefghijklmno pq rs"), 12, 12, 6, 8);
        rows(y, 4, 6, 6, 6, 6);
        rows(y, 5, 6, 6, 6, 2);
        rows(y, 7, 0, 1, 1, 0);
        due("letter of the rest", y.at(0, 2, 6), 'm');
        due("and of the word behind", y.at(0, 2, 10), 'p');
        with(y, 12, 12, 0, 0);
        rows(y, 4, 0, 0);
        rows(y, 5, 12, 9);
        with(y, 40, 12, 6, 8);
        rows(y, 4, 30, 34, 34);
        rows(y, 5, 10, 5, 5);
        with(y, 44, 12, 6, 8);
        rows(y, 4, 30, 38, 38);
        rows(y, 5, 14, 4, 2);
        with(y, 45, 12, 6, 8);
        rows(y, 5, 15, 5);
        rows(y, 4, 30, 38);

        due("row(-1, 0)", x.row(-1, 0), BAD);
        due("row(MIN, 0)", x.row(MIN, 0), BAD);
        due("row(5, 0)", x.row(5, 0), NONE);
        due("row(4, 0)", x.row(4, 0), 1);
        due("row(MAX, 8)", x.row(MAX, 8), NONE);
        due("row(0, 9)", x.row(0, 9), BAD);
        due("row(99, 9)", x.row(99, 9), BAD);
        due("row(99, -1)", x.row(99, -1), BAD);
        due("row(0, MAX)", x.row(0, MAX), BAD);
        due("row(0, MIN)", x.row(0, MIN), BAD);
    }

    private static void rowsOfHalfLines() {
        promise = "14 row";
        PoemPages x = poem("~ abc def", "~ ghi", ">>jk", "~ > lm /", "~ > no", "~ pq");
        rows(x, 4, 0, 8, 4, 7, 2, 5);
        rows(x, 8, 7, 11, 6, 9, 4, 7);
        // behind the last row of the line ahead, and its own others at its base + the run-over
        PoemPages y = with(poem("abcdefghij klmno", "~ > pqr stu vwx"), 16);
        rows(y, 4, 0, 10, 6);
        rows(y, 5, 16, 3, 7);
        with(y, 13);
        rows(y, 4, 0, 4, 7, 6);
        rows(y, 5, 10, 5, 3, 7);
    }

    private static void rowNumbers() {
        promise = "14 row";
        PoemPages x = poem("a", "b", "~ c", "d", "e", "f", "~ g", "h /", "~ i", "j", "k", "l");
        each(x, 6, 1, 2, 2, 3, 4, 5, 5, 6, 7, 8, 9, 10);
        rows(x, 6, 0, 0, 0, 0, 0, 5, 0, 0, 0, 0, 0, 10);
        x.set(0, 12);
        text(x, "abcdef ghijkl").replace(5);
        rows(x, 6, 0, 0, 0, 0, 0, 5, 0, 0, 0, 0, 0, 0, 10);
        x.toggle(5, true);
        rows(x, 6, 0, 0, 0, 0, 0, 0, 0, 0, 5, 0, 0, 0, 0);
    }

    private static void rowsAtMost() {
        promise = "14 row";
        PoemPages x = with(new PoemPages(), 12, 4, 6, 8, 0);
        StringBuilder line = new StringBuilder(">");
        for (int w = 0; w < 19; w++) {
            line.append("abc ");
        }
        text(x, line + "xyz");
        for (int k = 0; k < 24; k++) {
            x.insert(k);
        }
        due("rows", x.count(2), 480);
        due("the last one", x.row(479, 1), 19);
        due("its letter", x.at(119, 3, 6), 'x');
        due("row(480, 0)", x.row(480, 0), NONE);
        due("pages", x.count(3), 120);
        due("leastHeight(99)", x.leastHeight(99), 5);
        // eleven words from the column 6 on, nine from the column 14 on
        due("bestWidth(1)", x.bestWidth(1), 49);
        due("count(4)", x.count(4), 456);
    }

    private static void at() {
        promise = "15 at";
        PoemPages x = with(poem("> ab c", "d /", "e"), 12, 5);
        int[][] seen = {{0, 0, 2, 'a'}, {0, 0, 3, 'b'}, {0, 0, 4, 32}, {0, 0, 5, 'c'}, {0, 0, 6, 32}, {0, 0, 0, 32}, {0, 0, 1, 32},
            {0, 1, 0, 'd'}, {0, 2, 0, 32}, {0, 3, 0, 'e'}, {0, 4, 0, 32}, {0, 4, 11, 32}};
        for (int[] s : seen) {
            due("at(" + s[0] + ", " + s[1] + ", " + s[2] + ")", x.at(s[0], s[1], s[2]), s[3]);
        }
        due("at(0, 5, 0)", x.at(0, 5, 0), BAD);
        due("at(0, 0, 12)", x.at(0, 0, 12), BAD);
        due("at(1, 0, 0)", x.at(1, 0, 0), BAD);
        for (int out : OUT) {
            due("at(" + out + ", 0, 0)", x.at(out, 0, 0), BAD);
            due("at(0, " + out + ", 0)", x.at(0, out, 0), BAD);
            due("at(0, 0, " + out + ")", x.at(0, 0, out), BAD);
        }
        with(x, 12, 4, 2, 4, 6);
        lines(x, "f", "g");
        due("on the next page", x.at(1, 1, 0), 'f');
        due("behind the last row", x.at(1, 3, 0), 32);
        due("the last column", with(poem("abcdefghijkl"), 12).at(0, 0, 11), 'l');
    }

    private static void pagesOfStanzas() {
        promise = "14 row, 16 page";
        // five rows, one place passed over, and four rows fill ten places just so
        PoemPages x = with(poem("a", "a", "a", "a", "a /", "b", "b", "b", "b"), 30, 10);
        rows(x, 2, 0, 0, 0, 0, 0, 0, 0, 0, 0);
        rows(x, 3, 0, 1, 2, 3, 4, 6, 7, 8, 9);
        pages(x, 2, 0);
        x.set(1, 9);
        rows(x, 2, 0, 0, 0, 0, 0, 1, 1, 1, 1);
        rows(x, 3, 0, 1, 2, 3, 4, 0, 1, 2, 3);
        pages(x, 2, 1, 0);
        // a stanza of just the keep is kept whole, one of more rows is not
        x.set(4, 4);
        rows(x, 2, 0, 0, 0, 0, 0, 1, 1, 1, 1);
        x.set(4, 3);
        rows(x, 2, 0, 0, 0, 0, 0, 0, 0, 0, 1);
        rows(x, 3, 0, 1, 2, 3, 4, 6, 7, 8, 0);
        pages(x, 2, 0, 0);
        // with 5 and 6 places there is none behind the passed over one
        x.set(1, 5);
        rows(x, 2, 0, 0, 0, 0, 0, 1, 1, 1, 1);
        pages(x, 2, 1, 0);
        x.set(1, 6);
        rows(x, 2, 0, 0, 0, 0, 0, 1, 1, 1, 1);
        pages(x, 1, 5, 4);
        x.set(1, 7);
        rows(x, 2, 0, 0, 0, 0, 0, 0, 1, 1, 1);
        // a stanza of more rows than the height is not kept, whatever the keep is
        PoemPages y = with(poem("a /", "b", "b", "b", "b", "b"), 30, 4, 2, 4, 30);
        rows(y, 2, 0, 0, 0, 1, 1, 1);
        rows(y, 3, 0, 2, 3, 0, 1, 2);
        y.set(1, 5);
        rows(y, 2, 0, 1, 1, 1, 1, 1);
        pages(y, 2, 1, 0);
    }

    private static void pagesOfLongLines() {
        promise = "14 row, 16 page";
        String three = "abcdefghij abcdef abcdef", two = "abcdefghij ab";
        PoemPages x = with(poem("a", three, "b"), 12, 4, 2, 4, 0);
        rows(x, 2, 0, 0, 0, 0, 1);
        lines(x, three, two);
        // the line of three rows fills the page just so; that of two finds no place and is not parted
        rows(x, 2, 0, 0, 0, 0, 1, 1, 1, 1, 2, 2);
        x.set(1, 5);
        rows(x, 2, 0, 0, 0, 0, 0, 1, 1, 1, 1, 1);
        x.set(1, 6);
        rows(x, 2, 0, 0, 0, 0, 0, 1, 1, 1, 1, 1);
        rows(x, 3, 0, 1, 2, 3, 4, 0, 1, 2, 3, 4);
        pages(x, 2, 0, 0);
        pages(x, 1, 5, 5);
        // a first line that finds no room behind the passed over place begins a page, without the keep
        PoemPages y = with(poem("a /", three, "b"), 12, 4, 2, 4, 0);
        rows(y, 2, 0, 1, 1, 1, 1);
        pages(y, 2, 1, 0);
        y.set(1, 5);
        rows(y, 2, 0, 0, 0, 0, 1);
        pages(y, 2, 0, 0);
        // a line of more rows than a page has goes on, on pages behind
        String six = "abcdefghij abcdef abcdef abcdef abcdef abcdef";
        PoemPages z = with(poem("a", six, "b /", six), 12, 4, 2, 4, 30);
        rows(z, 2, 0, 1, 1, 1, 1, 2, 2, 2, 3, 3, 3, 3, 4, 4);
        rows(z, 3, 0, 0, 1, 2, 3, 0, 1, 2, 0, 1, 2, 3, 0, 1);
        pages(z, 2, 0, 0, 1, 0, 0);
        pages(z, 4, 1, 1, 1, 1, 0);
    }

    private static void pageProperties() {
        promise = "16 page";
        PoemPages x = with(poem("a", "b /", "abcdefghij abcdef", "c", "d /", "e"), 12, 6, 2, 4, 0);
        rows(x, 2, 0, 0, 0, 0, 0, 1, 1);
        pages(x, 0, 5, 2);
        pages(x, 1, 6, 3);
        pages(x, 2, 0, 0);
        pages(x, 3, 0, 5);
        pages(x, 4, 4, 2);
        due("page(0, 5)", x.page(0, 5), BAD);
        due("page(2, 0)", x.page(2, 0), BAD);
        for (int out : OUT) {
            due("page(" + out + ", 0)", x.page(out, 0), BAD);
            due("page(0, " + out + ")", x.page(0, out), BAD);
        }
        due("page(0, 0) without lines", new PoemPages().page(0, 0), BAD);
    }

    private static void distances(PoemPages x, int stanza, int... want) {
        String[] names = {"square", " wedge ", "diamond", "glass"};
        for (int s = 0; s < 4; s++) {
            due("distance from " + names[s], text(x, names[s]).distance(stanza), want[s]);
        }
    }

    private static void distance() {
        promise = "17 distance";
        PoemPages x = poem("abc", "abcdef", "abcdefgh", "abcd", "a /", "abcdefghij", "abcdefg", "abcd /", "a");
        // widths 3 6 8 4 1 of 5 rows, m 8: 8 8 8 8 8; 1 3 4 6 8; 2 5 8 5 2; 8 6 4 6 8
        distances(x, 0, 18, 18, 4, 18);
        // widths 10 7 4 of 3 rows, m 10: 10 10 10; 3 6 10; 5 10 5; 10 6 10
        distances(x, 1, 9, 14, 9, 7);
        distances(x, 2, 0, 0, 0, 0);
        lines(x, "abcdefghi", "abcde", "abc");
        // widths 1 9 5 3 of 4 rows, m 9: 9 9 9 9; 2 4 6 9; 3 7 7 3; 9 6 6 9
        distances(x, 2, 18, 13, 6, 18);
        due("distance(3)", x.distance(3), BAD);
        for (int out : OUT) {
            due("distance(" + out + ")", x.distance(out), BAD);
        }
        text(x, " glas");
        due("a fault", x.distance(0), -2001);
        due("BAD ahead of a fault", x.distance(3), BAD);
        text(x, "glass  !");
        due("a fault behind", x.distance(0), -2007);
        due("distance is no change", x.undo() >= 0 ? x.count(0) : -1, 11);
        // the width counts from the column 0
        PoemPages y = poem(">>> ab", "abcd");
        // widths 8 4, m 8: 8 8; 4 8; 5 5; 8 8
        distances(y, 0, 4, 8, 4, 4);
    }

    private static void shape() {
        promise = "18 shape";
        PoemPages x = poem("abcd", "abcd /", "a", "ab", "abc /", "ab", "abcd", "abcdef", "abcd", "ab /",
            "abcdef", "abcd", "abcd", "abcdef /", "a /", "abcd", "ab /", "ab", "abcd");
        int[] want = {0, 1, 2, 3, 0, 0, 1};
        for (int s = 0; s < want.length; s++) {
            due("shape(" + s + ")", x.shape(s), want[s]);
        }
        due("shape(7)", x.shape(7), BAD);
        for (int out : OUT) {
            due("shape(" + out + ")", x.shape(out), BAD);
        }
        due("shape(0) without lines", new PoemPages().shape(0), BAD);
    }

    private static void bestWidth() {
        promise = "19 bestWidth";
        PoemPages x = new PoemPages();
        for (int what : new int[] {MIN, -1, 3, MAX}) {
            due("bestWidth(" + what + ") without lines", x.bestWidth(what), BAD);
        }
        for (int what = 0; what < 3; what++) {
            due("bestWidth without lines", x.bestWidth(what), STATE);
        }
        lines(x, "abcdefghijklmn abcde", "> abcdefghijklmnop", "abc");
        x.set(1, 4);
        long before = x.digest();
        due("bestWidth(0)", x.bestWidth(0), 18);
        due("bestWidth(1)", x.bestWidth(1), 20);
        due("bestWidth(2)", x.bestWidth(2), 18);
        for (int what : new int[] {MIN, -1, 3, MAX}) {
            due("bestWidth(" + what + ")", x.bestWidth(what), BAD);
        }
        due("nothing changes", x.digest(), before);
        due("the least one of several", poem("a").bestWidth(0), 12);
        due("the greatest width", poem("a ".repeat(30)).bestWidth(1), 59);
        due("more than the greatest", poem("abc ".repeat(20)).bestWidth(1), 43);
    }

    private static void leastHeight() {
        promise = "20 leastHeight";
        PoemPages x = new PoemPages();
        for (int pages : new int[] {MIN, -1, 0, 100, MAX}) {
            due("leastHeight(" + pages + ")", x.leastHeight(pages), BAD);
        }
        due("leastHeight(1) without lines", x.leastHeight(1), 4);
        lines(x, "a", "a", "a", "a", "a", "a", "a");
        long before = x.digest();
        due("leastHeight(1)", x.leastHeight(1), 7);
        due("leastHeight(2)", x.leastHeight(2), 4);
        due("leastHeight(99)", x.leastHeight(99), 4);
        due("nothing changes", x.digest(), before);
        for (int n = 0; n < 16; n++) {
            text(x, "a /").insert(0);
        }
        // 16 stanzas of one row and one of 7: 39 places with those between
        due("leastHeight(1)", x.leastHeight(1), NONE);
        due("leastHeight(2)", x.leastHeight(2), 19);
        x.remove(0);
        x.remove(0);
        x.remove(0);
        x.remove(0);
        x.remove(0);
        due("one page of 29 places", x.leastHeight(1), 29);
        lines(x, "a");
        due("one page of 30 places", x.leastHeight(1), 30);
        lines(x, "a");
        due("31 are too many", x.leastHeight(1), NONE);
        PoemPages y = new PoemPages();
        for (int k = 0; k < 21; k++) {
            lines(y, k % 7 == 6 ? "a /" : "a");
        }
        due("three stanzas of 7 rows that may be parted", y.leastHeight(2), 12);
        y.set(4, 7);
        due("three that are kept", y.leastHeight(2), 15);
    }

    private static void count() {
        promise = "21 count";
        PoemPages x = with(poem("abcdefghijklm /", "~ a", "~ b /", ">> abcdefgh abc"), 12, 4, 2, 4, 5);
        text(x, "text");
        int[] want = {4, 3, 6, 3, 2, 1, 2, 3, 12, 8, 4, 12, 4, 2, 4, 5};
        for (int what = 0; what < want.length; what++) {
            due("count(" + what + ")", x.count(what), want[what]);
        }
        for (int what : new int[] {MIN, -1, 16, MAX}) {
            due("count(" + what + ")", x.count(what), BAD);
        }
    }

    private static void digest() {
        promise = "22 digest";
        long h = 805;
        for (int n : new int[] {0, 0, 0, 0, 0, 0, 0, 0, 0, 0, 0, 30, 12, 2, 4, 6}) {
            h = 31 * h + n;
        }
        due("digest() of a new object", new PoemPages().digest(), h);
        due("with a text", text(new PoemPages(), "a").digest(), 31 * (h + 31 * 31 * 31 * 31 * 31) + 'a');
        PoemPages x = with(poem("~ > abcdefghijklmn /", "b", "~ > c", "d", "e", "f"), 12, 4);
        text(x, "ab");
        due("digest() by the other answers", x.digest(), byAnswers(x));
        due("and once more", x.digest(), byAnswers(x));
    }

    private static long byAnswers(PoemPages x) {
        long h = 805;
        for (int i = 0; i < 16; i++) {
            h = 31 * h + x.count(i);
        }
        for (int k = 0; k < x.count(0); k++) {
            for (int w = 0; w < 10; w++) {
                h = 31 * h + x.line(k, w);
            }
        }
        for (int r = 0; r < x.count(2); r++) {
            for (int w = 0; w < 9; w++) {
                h = 31 * h + x.row(r, w);
            }
        }
        for (int p = 0; p < x.count(3); p++) {
            for (int w = 0; w < 5; w++) {
                h = 31 * h + x.page(p, w);
            }
        }
        for (int r = 0; r < x.count(2); r++) {
            for (int c = 0; c < x.count(11); c++) {
                h = 31 * h + x.at(x.row(r, 2), x.row(r, 3), c);
            }
        }
        for (int s = 0; s < x.count(1); s++) {
            h = 31 * h + x.shape(s);
        }
        return 31 * (31 * h + 'a') + 'b';
    }

    private static void constants() {
        promise = "The constants";
        due("NONE", PoemPages.NONE, NONE);
        due("BAD", PoemPages.BAD, BAD);
        due("STATE", PoemPages.STATE, STATE);
        due("FULL", PoemPages.FULL, FULL);
    }
}
