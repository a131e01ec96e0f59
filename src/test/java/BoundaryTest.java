import java.io.IOException;
import java.math.BigInteger;
import java.nio.file.Files;
import java.nio.file.Path;
import java.util.ArrayList;
import java.util.Arrays;
import java.util.HashMap;
import java.util.List;
import java.util.Map;
import java.util.function.Supplier;
import java.util.function.ToLongFunction;

/**
 * The boundary cases of ../shared/DOC.md, promise by promise: each sentence that names one is quoted, and what stands
 * behind the quotation is its test. A quotation must stand in the document, in the promise or in the description; and
 * no argument and no result of a promise may be without a quotation.
 */
public final class BoundaryTest {
    private static final int NONE = -1, BAD = -2, STATE = -3, FULL = -4;
    private static final int MIN = Integer.MIN_VALUE, MAX = Integer.MAX_VALUE;
    /** Out of every range, and such that sums and differences with them wrap around. */
    private static final int[] FAR = {MIN, MIN + 1, -65536, -2001, -256, -32, -1, 256, 65536, MAX - 1, MAX};
    private static final int PROMISES = 22;

    private static final List<String> promises = new ArrayList<>();
    private static final Map<Integer, StringBuilder> quoted = new HashMap<>();
    private static String description = "";
    private static String label = "";
    private static int sentences = 0;
    private static int checks = 0;
    private static int wrong = 0;

    public static void main(String[] args) throws IOException {
        readDocument();
        newObject();
        type();
        clear();
        faultOfLines();
        faultOfShapes();
        insert();
        replace();
        remove();
        move();
        toggle();
        lineProperties();
        stanzasAndNumbersOfLines();
        letter();
        set();
        undo();
        rowColumns();
        rowWords();
        rowNumbers();
        stanzasOnPages();
        linesOnPages();
        at();
        page();
        distance();
        shape();
        bestWidth();
        leastHeight();
        count();
        digest();
        wholeUse();
        refusedCalls();
        allQuoted();
        allOfDescriptionQuoted();
        System.out.println(wrong == 0 ? sentences + " sentences hold in " + checks + " checks" : wrong + " answers are not as due");
        if (wrong != 0) {
            System.exit(1);
        }
    }

    // ---- the document

    private static String oneSpaced(String text) {
        return text.replaceAll("\\s+", " ").trim();
    }

    private static void readDocument() throws IOException {
        String[] parts = Files.readString(Path.of("../shared/DOC.md")).split("\n## ");
        promises.add("");
        for (String part : parts) {
            if (part.startsWith("Description")) {
                description = oneSpaced(part);
            } else if (part.startsWith("Promise ")) {
                promises.add(part);
            } else {
                promises.set(0, promises.get(0) + oneSpaced(part) + " ");
            }
        }
        label = "the document";
        due("its promises", promises.size() - 1, PROMISES);
    }

    /** What follows, up to the next one, tests the sentence of the promise, or one of the description for its sake. */
    private static void sentence(int promise, String words) {
        sentences++;
        label = "promise " + promise + ", \"" + words + "\"";
        quoted.computeIfAbsent(promise, p -> new StringBuilder()).append(words).append('\n');
        boolean stands = promise < promises.size() && oneSpaced(promises.get(promise)).contains(words)
            || description.contains(words) || promises.get(0).contains(words);
        if (!stands) {
            due("no such sentence in the document", 0, 1);
        }
    }

    /** Of the description only headings and marks of a few letters may be left without a quotation. */
    private static void allOfDescriptionQuoted() {
        label = "the description";
        boolean[] told = new boolean[description.length()];
        for (StringBuilder all : quoted.values()) {
            for (String words : all.toString().split("\n")) {
                for (int at = description.indexOf(words); at >= 0; at = description.indexOf(words, at + 1)) {
                    Arrays.fill(told, at, at + words.length(), true);
                }
            }
        }
        StringBuilder left = new StringBuilder();
        for (int i = 0; i < told.length; i++) {
            left.append(told[i] ? '\n' : description.charAt(i));
        }
        for (String words : left.toString().split("\n+")) {
            due("has \"" + words.trim() + "\" quoted", words.trim().length() < 20 ? 1 : 0, 1);
        }
    }

    private static void allQuoted() {
        for (int p = 1; p < promises.size(); p++) {
            String words = quoted.getOrDefault(p, new StringBuilder()).toString();
            label = "promise " + p;
            due("is quoted", words.isEmpty() ? 0 : 1, 1);
            String[] paragraphs = promises.get(p).trim().split("\n\n|\n(?=- `)");
            for (int i = 1; i < paragraphs.length; i++) {
                String told = oneSpaced(paragraphs[i]);
                // the last paragraph tells the result, and each of the others an argument or what the call does
                if (told.startsWith("- `") || i == paragraphs.length - 1) {
                    due("has \"" + told + "\" quoted", words.contains(told) ? 1 : 0, 1);
                }
            }
        }
    }

    // ---- helpers

    private static void due(String what, long got, long want) {
        checks++;
        if (got != want) {
            wrong++;
            System.out.println(label + ": " + what + " answered " + got + ", due is " + want);
        }
    }

    private static void same(String what, String got, String want) {
        checks++;
        if (!got.equals(want)) {
            wrong++;
            System.out.println(label + ": " + what + " made " + got + ", due is " + want);
        }
    }

    private static PoemPages text(PoemPages x, String text) {
        x.clear();
        for (int i = 0; i < text.length(); i++) {
            x.type(text.charAt(i));
        }
        return x;
    }

    /** Puts lines behind those that are there. */
    private static PoemPages add(PoemPages x, String... lines) {
        for (String line : lines) {
            int before = x.count(0);
            due("insert " + line, text(x, line).insert(before), before + 1);
        }
        return x;
    }

    private static PoemPages poem(String... lines) {
        return add(new PoemPages(), lines);
    }

    private static String[] times(int n, String line) {
        String[] all = new String[n];
        Arrays.fill(all, line);
        return all;
    }

    /** Width, height, step, run-over and keep, as many as are given. */
    private static PoemPages with(PoemPages x, int... settings) {
        for (int i = 0; i < settings.length; i++) {
            x.set(i, settings[i]);
        }
        return x;
    }

    /** A line of n rows, 1 to 10, with the width 12 and the run-over 4. */
    private static String of(int n) {
        return "abcdefghij" + " abcdef".repeat(n - 1);
    }

    private static PoemPages paged(int height, int keep, String... lines) {
        return with(poem(lines), 12, height, 2, 4, keep);
    }

    private static void rows(String what, PoemPages x, int property, int... want) {
        due(what + ": count(2)", x.count(2), want.length);
        for (int i = 0; i < want.length; i++) {
            due(what + ": row(" + i + ", " + property + ")", x.row(i, property), want[i]);
        }
    }

    private static void pages(String what, PoemPages x, int property, int... want) {
        due(what + ": count(3)", x.count(3), want.length);
        for (int i = 0; i < want.length; i++) {
            due(what + ": page(" + i + ", " + property + ")", x.page(i, property), want[i]);
        }
    }

    private static void lines(String what, PoemPages x, int property, int... want) {
        due(what + ": count(0)", x.count(0), want.length);
        for (int i = 0; i < want.length; i++) {
            due(what + ": line(" + i + ", " + property + ")", x.line(i, property), want[i]);
        }
    }

    /** The lines by their first letters. */
    private static String order(PoemPages x) {
        StringBuilder all = new StringBuilder();
        for (int k = 0; k < x.count(0); k++) {
            all.append((char) x.letter(k, 0));
        }
        return all.toString();
    }

    private static String words(PoemPages x, int line) {
        StringBuilder all = new StringBuilder();
        for (int i = 0; i < 80 && x.letter(line, i) != NONE; i++) {
            all.append((char) x.letter(line, i));
        }
        return all.toString();
    }

    /** The call answers as due, and an object that was asked goes on, back through its history, like one that was not. */
    private static void changesNothing(Supplier<PoemPages> make, String call, long want, ToLongFunction<PoemPages> asked) {
        PoemPages tried = make.get(), other = make.get();
        due(call, asked.applyAsLong(tried), want);
        due("digest() behind " + call, tried.digest(), other.digest());
        for (int n = 0; n < 9; n++) {
            due("undo() " + n + " behind " + call, tried.undo(), other.undo());
            due("digest() behind it", tried.digest(), other.digest());
        }
        due("type(97) behind " + call, tried.type('a'), other.type('a'));
        due("fault(false) behind it", tried.fault(false), other.fault(false));
        due("fault(true) behind it", tried.fault(true), other.fault(true));
    }

    /** Four lines, three stanzas, seven rows, three pages, and a full history; the text is a line of four words. */
    private static PoemPages some() {
        PoemPages x = new PoemPages();
        x.set(4, 3);
        x.set(0, 13);
        x.set(1, 5);
        add(x, "> a bc", "~ def /", "> ghijklm nopqrstuvwx y /", "~ z");
        x.toggle(3, false);
        x.set(2, 3);
        x.move(0, 1, 1);
        return text(x, "k l m n");
    }

    private static PoemPages someWith(String text) {
        return text(some(), text);
    }

    private static PoemPages full(String text) {
        return text(poem(times(24, "z")), text);
    }

    private static PoemPages typed(int n, int letter) {
        PoemPages x = new PoemPages();
        for (int i = 1; i <= n; i++) {
            due("type(" + letter + ")", x.type(letter), i);
        }
        return x;
    }

    // ---- promise 1

    private static void newObject() {
        sentence(1, "Creates a poem without lines, with an empty text.");
        PoemPages x = new PoemPages();
        for (int what = 0; what <= 10; what++) {
            due("count(" + what + ")", x.count(what), 0);
        }
        for (int what = 0; what <= 9; what++) {
            due("line(0, " + what + ")", x.line(0, what), BAD);
            due("row(0, " + what + ")", x.row(0, what), what < 9 ? NONE : BAD);
            due("page(0, " + what + ")", x.page(0, what), BAD);
        }
        due("letter(0, 0)", x.letter(0, 0), BAD);
        due("at(0, 0, 0)", x.at(0, 0, 0), BAD);
        due("distance(0)", x.distance(0), BAD);
        due("shape(0)", x.shape(0), BAD);
        due("fault(false)", x.fault(false), 0);
        due("fault(true)", x.fault(true), 0);
        due("insert(0)", x.insert(0), -2000);
        due("insert(1)", x.insert(1), BAD);
        due("replace(0)", x.replace(0), BAD);
        due("remove(0)", x.remove(0), BAD);
        due("move(0, 1, 0)", x.move(0, 1, 0), BAD);
        due("move(0, 0, 0)", x.move(0, 0, 0), BAD);
        due("toggle(0, false)", x.toggle(0, false), BAD);
        due("toggle(0, true)", x.toggle(0, true), BAD);
        due("bestWidth(0)", x.bestWidth(0), STATE);
        due("leastHeight(1)", x.leastHeight(1), 4);
        due("undo()", x.undo(), STATE);
        due("clear()", x.clear(), 0);

        sentence(1, "Settings, with their numbers, ranges, and what they are at first: 0 the width, 12 to 60 (30); "
            + "1 the height, 4 to 30 (12); 2 the step, 0 to 6 (2); 3 the run-over, 0 to 8 (4); 4 the keep, 0 to 30 (6).");
        int[] first = {30, 12, 2, 4, 6};
        for (int what = 0; what < 5; what++) {
            due("count(" + (11 + what) + ")", new PoemPages().count(11 + what), first[what]);
            due("set(" + what + ", 12)", with(new PoemPages()).set(what, what < 2 || what == 4 ? 12 : 0), first[what]);
        }
        PoemPages y = some();
        due("an object stands for itself", new PoemPages().count(11), 30);
        due("and so does the other one", y.count(11), 13);
    }

    // ---- promise 2

    private static void type() {
        sentence(2, "- `letter`: 0 to 127");
        PoemPages x = new PoemPages();
        for (int letter = 0; letter <= 127; letter++) {
            due("type(" + letter + ")", x.type(letter), letter % 64 + 1);
            if (letter == 63) {
                due("clear()", x.clear(), 64);
            }
        }
        for (int letter : new int[] {-1, 128, 255, 256 + 97, -128 + 97 - 256, 65536 + 97}) {
            changesNothing(BoundaryTest::some, "type(" + letter + ")", BAD, y -> y.type(letter));
        }
        for (int letter : FAR) {
            changesNothing(PoemPages::new, "type(" + letter + ")", BAD, y -> y.type(letter));
        }

        sentence(2, "Returns the length of the text then; BAD; FULL if it has 80 bytes.");
        due("count(10)", typed(79, 'a').count(10), 79);
        due("type(97), the 80th", typed(79, 'a').type('a'), 80);
        for (int letter : new int[] {0, 97, 127}) {
            changesNothing(() -> typed(80, 'a'), "type(" + letter + "), the 81st", FULL, y -> y.type(letter));
        }
        PoemPages full = typed(80, 'a');
        due("type(97)", full.type('a'), FULL);
        due("clear()", full.clear(), 80);
        due("type(97) after clear()", full.type('a'), 1);

        sentence(2, "If several of them apply to a call, the one that comes first in the description of the result is returned.");
        for (int letter : new int[] {-1, 128, MIN, MAX}) {
            changesNothing(() -> typed(80, 'a'), "type(" + letter + ") into a full text", BAD, y -> y.type(letter));
        }

        sentence(2, "There is a text of at most 80 bytes, which is read as a line or as the name of a shape");
        due("a line of 80 bytes", text(new PoemPages(), " ".repeat(79) + "a").fault(false), NONE);
        due("a shape of 80 bytes", text(new PoemPages(), " ".repeat(75) + "glass").fault(true), NONE);
        due("what comes behind does not count", text(new PoemPages(), "a".repeat(16) + " ".repeat(64) + "?").fault(false), NONE);
        due("nor for a shape", text(new PoemPages(), " ".repeat(74) + "square!").fault(true), NONE);
        due("what is cut off by it is missing", text(new PoemPages(), " ".repeat(76) + "glass").fault(true), 76);
    }

    // ---- promise 3

    private static void clear() {
        sentence(3, "Returns the length that it had.");
        due("clear() of an empty text", new PoemPages().clear(), 0);
        due("of one byte", typed(1, 0).clear(), 1);
        due("of 79", typed(79, 'a').clear(), 79);
        due("of 80", typed(80, 'a').clear(), 80);
        PoemPages refused = typed(80, 'a');
        refused.type('a');
        due("of 80, an 81st refused", refused.clear(), 80);

        sentence(3, "Empties the text.");
        PoemPages x = text(new PoemPages(), "abcdefgh");
        x.clear();
        due("clear() again", x.clear(), 0);
        due("count(10)", x.count(10), 0);
        due("fault(false)", x.fault(false), 0);
        due("fault(true)", x.fault(true), 0);
        due("type(113)", x.type('q'), 1);
        due("insert(0)", x.insert(0), 1);
        same("nothing that stood there comes back", words(x, 0), "q");

        sentence(3, "The text does not belong to the state.");
        PoemPages y = some();
        due("clear()", y.clear(), 7);
        due("undo()", y.undo(), 7);
        due("undo() brings no text back", y.count(10), 0);
    }

    // ---- promise 4

    private static void lineFault(String text, int want) {
        due("fault(false) of \"" + text + "\"", text(new PoemPages(), text).fault(false), want);
    }

    private static void faultOfLines() {
        String word = "abcdefghijklmnop";

        sentence(4, "- `shape`: whether it is read as the name of a shape, otherwise as a line");
        lineFault("glass", NONE);
        shapeFault("glass", NONE);
        lineFault("> gloss", NONE);
        shapeFault("> gloss", 0);

        sentence(4, "Returns the index; NONE if there is no fault.");
        lineFault("", 0);
        lineFault("a", NONE);
        changesNothing(() -> someWith("a"), "fault(false)", NONE, y -> y.fault(false));
        changesNothing(() -> someWith("a "), "fault(true)", 0, y -> y.fault(true));

        sentence(4, "line = [ \"~\" ] { \">\" } word { word } [ \"/\" ] "
            + "Braces mean repetition, zero times or more, brackets at most once.");
        lineFault("a", NONE);
        lineFault("~a", NONE);
        lineFault("~~a", 1);
        lineFault("~ ~a", 2);
        lineFault("~>~a", 2);
        lineFault(">a", NONE);
        lineFault(">>>>>a", NONE);
        lineFault("a/", NONE);
        lineFault("a//", 2);
        lineFault("a / /", 4);
        lineFault("a b", NONE);
        lineFault("~>", 2);
        lineFault("~>/", 2);
        lineFault("/", 0);
        lineFault("a ~", 2);
        lineFault("a >", 2);
        lineFault("a~", 1);
        lineFault("a>", 1);
        lineFault("a/~", 2);
        lineFault("a/>", 2);
        lineFault("a/b", 2);
        lineFault("a / b", 4);
        lineFault(">~a", 1);
        lineFault("a ".repeat(40), NONE);
        lineFault("a ".repeat(39) + "a/", NONE);

        sentence(4, "A word is a sequence of 1 to 16 letters from a to z, as many as stand there;");
        lineFault("z", NONE);
        lineFault("`", 0);
        lineFault("{", 0);
        lineFault("@", 0);
        lineFault("A", 0);
        lineFault("Z", 0);
        lineFault("[", 0);
        lineFault("a`", 1);
        lineFault("z{", 1);
        lineFault(word, NONE);
        lineFault(word + "q", 16);
        lineFault(word + " q", NONE);
        lineFault(word + "/", NONE);

        sentence(4, "blanks (byte 32) can stand ahead of and behind words and signs, and two words need at least one between them.");
        lineFault("   ~   >   >   a   b   /   ", NONE);
        lineFault("~>a b/", NONE);
        lineFault("\u001fa", 0);
        lineFault("!a", 0);
        lineFault("a\u001fb", 1);
        lineFault("a!b", 1);
        lineFault("a\tb", 1);
        lineFault("a\n", 1);
        lineFault("\0", 0);
        lineFault("a /\0", 3);
        lineFault("a /\177", 3);

        sentence(4, "\"~\" means that the line is a half-line, each \">\" that it is set in by one step more (at most 5), "
            + "and \"/\" that it is the last one of its stanza.");
        lines("steps", poem("a", ">a", "> > a", ">>> a", "~>>>>a/", "~ >>>>>a"), 2, 0, 1, 2, 3, 4, 5);
        lines("half-lines", poem("a", ">a", "~a", "~>a", "~ a/", "a /"), 3, 0, 0, 1, 1, 1, 0);
        lines("ends of stanzas", poem("a", ">a", "~a", "~>a", "~ a/", "a /"), 5, 0, 0, 0, 0, 1, 1);
        lineFault(">>>>>a", NONE);
        lineFault(">>>>>>a", 5);
        lineFault("~>>>>>a", NONE);
        lineFault("~>>>>>>a", 6);

        sentence(4, "The fault of a text is the index, from 0, of the first byte that cannot stand at its place "
            + "(also of a sixth \">\", and of the 17th letter of a word);");
        lineFault("?", 0);
        lineFault("??", 0);
        lineFault(" ?a?", 1);
        lineFault(">>>>>>", 5);
        lineFault(">>>>>>>", 5);
        lineFault("~ > > > > > > a", 12);
        lineFault(word + word, 16);
        lineFault("?" + word + word, 0);
        lineFault(" a " + word + "q r", 19);
        lineFault("~>>>>>" + word + "q>", 22);
        lineFault(" ".repeat(79) + "?", 79);
        lineFault(" ".repeat(63) + word + "q", 79);
        lineFault(" ".repeat(74) + ">>>>>>", 79);

        sentence(4, "and it is the length of the text if the text ends too early.");
        lineFault("", 0);
        lineFault(" ", 1);
        lineFault("~", 1);
        lineFault("~ ", 2);
        lineFault(">", 1);
        lineFault(">>>>>", 5);
        lineFault("~>>>>>  ", 8);
        lineFault(" ".repeat(79), 79);
        lineFault(" ".repeat(80), 80);
        lineFault(" ".repeat(79) + "~", 80);
        lineFault("~" + " ".repeat(78) + ">", 80);
    }

    private static void shapeFault(String text, int want) {
        due("fault(true) of \"" + text + "\"", text(new PoemPages(), text).fault(true), want);
    }

    private static void faultOfShapes() {
        sentence(4, "The names of shapes are square, wedge, diamond and glass; blanks can stand ahead of a name and behind it.");
        for (String name : new String[] {"square", "wedge", "diamond", "glass"}) {
            int n = name.length();
            shapeFault(name, NONE);
            shapeFault("   " + name, NONE);
            shapeFault(name + "   ", NONE);
            shapeFault(" ".repeat(80 - n) + name, NONE);
            shapeFault(name + " ".repeat(80 - n), NONE);
            shapeFault(name + name, 0);
            shapeFault(name + " " + name, n + 1);
            shapeFault(name + " ".repeat(79 - n) + "/", 79);
            shapeFault(name + "/", n);
            shapeFault(name + "\0", n);
            shapeFault(name + "`", n);
            shapeFault(name + "{", n);
            shapeFault(name.toUpperCase(), 0);
            shapeFault("\t" + name, 0);
            shapeFault("~" + name, 0);
            shapeFault(" >" + name, 1);
            for (int i = 0; i < n; i++) {
                shapeFault(name.substring(0, i) + (char) (name.charAt(i) - 1) + name.substring(i + 1), 0);
                shapeFault(name.substring(0, i) + (char) (name.charAt(i) + 1) + name.substring(i + 1), 0);
            }
        }

        sentence(4, "for letters that are none of the names of shapes that of the first of them;");
        for (String name : new String[] {"square", "wedge", "diamond", "glass"}) {
            shapeFault(name.substring(0, name.length() - 1), 0);
            shapeFault("  " + name.substring(0, name.length() - 1), 2);
            shapeFault(" " + name.substring(1), 1);
            shapeFault(" " + name.charAt(0) + " " + name.substring(1), 1);
            shapeFault("a" + name, 0);
            shapeFault(" " + name + "z ", 1);
        }
        shapeFault("a", 0);
        shapeFault("abcdefghijklmnopq", 0);
        shapeFault("z".repeat(80), 0);
        shapeFault(" ".repeat(79) + "z", 79);

        sentence(4, "and it is the length of the text if the text ends too early.");
        shapeFault("", 0);
        shapeFault(" ", 1);
        shapeFault(" ".repeat(79), 79);
        shapeFault(" ".repeat(80), 80);
    }

    // ---- promise 5

    private static void insert() {
        sentence(5, "- `line`: the number that it gets, 0 to the number of lines");
        due("into an empty poem", text(new PoemPages(), "a").insert(0), 1);
        changesNothing(() -> text(new PoemPages(), "a"), "insert(1) into an empty poem", BAD, x -> x.insert(1));
        PoemPages y = poem("a", "b");
        due("ahead of the first one", text(y, "c").insert(0), 3);
        due("behind the last one", text(y, "d").insert(3), 4);
        due("ahead of the last one", text(y, "e").insert(3), 5);
        same("inserting", order(y), "cabed");
        changesNothing(BoundaryTest::some, "insert(5)", BAD, x -> x.insert(5));
        changesNothing(BoundaryTest::some, "insert(-1)", BAD, x -> x.insert(-1));
        for (int out : FAR) {
            changesNothing(BoundaryTest::some, "insert(" + out + ")", BAD, x -> x.insert(out));
        }

        sentence(5, "Returns the number of lines then; BAD; -2000 - p if the text has the fault p as a line; FULL if there are 24 lines.");
        changesNothing(() -> someWith(""), "insert(0) of an empty text", -2000, x -> x.insert(0));
        changesNothing(() -> someWith("?"), "insert(4)", -2000, x -> x.insert(4));
        changesNothing(() -> someWith(">>>>>>"), "insert(0)", -2005, x -> x.insert(0));
        changesNothing(() -> someWith("a".repeat(17)), "insert(0)", -2016, x -> x.insert(0));
        changesNothing(() -> someWith(" ".repeat(79) + "?"), "insert(0)", -2079, x -> x.insert(0));
        changesNothing(() -> someWith(" ".repeat(80)), "insert(0)", -2080, x -> x.insert(0));
        for (int k = 0; k <= 24; k++) {
            int line = k;
            changesNothing(() -> full("a"), "insert(" + k + ") into 24 lines", FULL, x -> x.insert(line));
        }

        sentence(5, "It has at most 24 lines, numbered from 0.");
        PoemPages z = text(new PoemPages(), "z");
        for (int n = 1; n <= 24; n++) {
            due("insert(" + (n - 1) + ")", z.insert(n - 1), n);
        }
        due("the 25th line", z.insert(24), FULL);
        due("remove(23)", z.remove(23), 23);
        due("the 24th line again", z.insert(23), 24);
        due("the 25th line", z.insert(0), FULL);
        due("undo()", z.undo(), 7);
        due("the 24th line once more", z.insert(0), 24);
        due("line(23, 6)", z.line(23, 6), 24);
        due("line(24, 6)", z.line(24, 6), BAD);

        sentence(5, "If several of them apply to a call, the one that comes first in the description of the result is returned.");
        changesNothing(() -> someWith("?"), "BAD and a fault", BAD, x -> x.insert(5));
        changesNothing(() -> full("?"), "a fault and FULL", -2000, x -> x.insert(0));
        changesNothing(() -> full("a?"), "a fault and FULL", -2001, x -> x.insert(24));
        changesNothing(() -> full("a"), "BAD and FULL", BAD, x -> x.insert(25));
        changesNothing(() -> full("a"), "BAD and FULL", BAD, x -> x.insert(-1));
        changesNothing(() -> full(""), "BAD, a fault and FULL", BAD, x -> x.insert(25));

        sentence(5, "Inserts the line of the text. The text stays. This is a change.");
        PoemPages w = text(new PoemPages(), "~>>>>>" + "a".repeat(16) + " " + "b".repeat(16) + " " + "c".repeat(16) + " d  / ");
        int length = w.count(10);
        due("insert(0)", w.insert(0), 1);
        due("the text stays", w.count(10), length);
        due("insert(1)", w.insert(1), 2);
        due("states", w.count(9), 2);
        lines("letters", w, 0, 49, 49);
        lines("words", w, 1, 4, 4);
        lines("steps", w, 2, 5, 5);
        lines("half-lines", w, 3, 1, 1);
        lines("ends of stanzas", w, 5, 1, 1);
        due("undo()", w.undo(), 1);
        due("undo()", w.undo(), 0);
        due("lines", w.count(0), 0);
        due("the text stays", w.count(10), length);
        w.clear();
        text(w, "x").insert(0);
        w.clear();
        text(w, "y");
        same("the line stands for itself", words(w, 0), "x");
    }

    // ---- promise 6

    private static void replace() {
        sentence(6, "- `line`: the line");
        for (int k = 0; k < 4; k++) {
            PoemPages x = some();
            due("replace(" + k + ")", x.replace(k), new int[] {1, 2, 3, 1}[k]);
            same("replace(" + k + ")", words(x, k), "k l m n");
            due("lines", x.count(0), 4);
        }
        changesNothing(BoundaryTest::some, "replace(4)", BAD, x -> x.replace(4));
        changesNothing(() -> text(new PoemPages(), "a"), "replace(0) without lines", BAD, x -> x.replace(0));
        changesNothing(() -> full("a"), "replace(24)", BAD, x -> x.replace(24));
        for (int out : FAR) {
            changesNothing(BoundaryTest::some, "replace(" + out + ")", BAD, x -> x.replace(out));
        }

        sentence(6, "Returns the number of words that the other one had; BAD; -2000 - p if the text has the fault p as a line.");
        PoemPages y = poem("a ".repeat(40), "a");
        due("of 40 words by one", y.replace(0), 40);
        text(y, "b ".repeat(40));
        due("of one word by 40", y.replace(1), 1);
        due("of 40 words by 40", y.replace(1), 40);
        changesNothing(() -> someWith(""), "replace(0)", -2000, x -> x.replace(0));
        changesNothing(() -> someWith("a~"), "replace(3)", -2001, x -> x.replace(3));
        changesNothing(() -> someWith(" ".repeat(79) + "~"), "replace(3)", -2080, x -> x.replace(3));
        PoemPages full = full("y");
        for (int k = 0; k < 24; k++) {
            due("replace(" + k + ") in a full poem", full.replace(k), 1);
        }
        due("lines", full.count(0), 24);

        sentence(6, "If several of them apply to a call, the one that comes first in the description of the result is returned.");
        changesNothing(() -> someWith("?"), "BAD and a fault", BAD, x -> x.replace(4));
        changesNothing(() -> someWith(""), "BAD and a fault", BAD, x -> x.replace(-1));
        changesNothing(PoemPages::new, "BAD and a fault", BAD, x -> x.replace(0));

        sentence(6, "Puts the line of the text, with all that it is, in place of another one. The text stays. This is a change.");
        PoemPages z = poem("~>>>>> a b /", "c");
        text(z, "d");
        due("replace(0)", z.replace(0), 2);
        lines("letters", z, 0, 1, 1);
        lines("steps", z, 2, 0, 0);
        lines("half-lines", z, 3, 0, 0);
        lines("ends of stanzas", z, 5, 0, 0);
        due("stanzas", z.count(1), 1);
        due("the text stays", z.count(10), 1);
        due("states", z.count(9), 3);
        text(z, "~>>>>>e f/");
        due("replace(0)", z.replace(0), 1);
        lines("steps", z, 2, 5, 0);
        lines("half-lines", z, 3, 1, 0);
        lines("ends of stanzas", z, 5, 1, 0);
        due("a line by itself", z.replace(0), 2);
        due("is a change, too", z.count(9), 5);
        z.undo();
        z.undo();
        same("undo()", words(z, 0), "d");
        z.undo();
        same("undo()", words(z, 0), "a b");
        due("with all that it is", z.line(0, 2) * 100 + z.line(0, 3) * 10 + z.line(0, 5), 511);
    }

    // ---- promise 7

    private static void remove() {
        sentence(7, "- `line`: the line");
        String[] left = {"bcd", "acd", "abd", "abc"};
        for (int k = 0; k < 4; k++) {
            PoemPages x = poem("a", "b", "c", "d");
            due("remove(" + k + ")", x.remove(k), 3);
            same("remove(" + k + ")", order(x), left[k]);
            due("the last line is gone", x.line(3, 0), BAD);
        }
        changesNothing(BoundaryTest::some, "remove(4)", BAD, x -> x.remove(4));
        changesNothing(PoemPages::new, "remove(0) without lines", BAD, x -> x.remove(0));
        changesNothing(() -> full("a"), "remove(24)", BAD, x -> x.remove(24));
        for (int out : FAR) {
            changesNothing(BoundaryTest::some, "remove(" + out + ")", BAD, x -> x.remove(out));
        }

        sentence(7, "Returns the number of lines that are left; BAD.");
        PoemPages y = full("z");
        for (int n = 23; n >= 0; n--) {
            due("remove(" + n / 2 + ")", y.remove(n / 2), n);
        }
        due("remove(0) without lines", y.remove(0), BAD);
        for (int what : new int[] {0, 1, 2, 3, 4, 5, 6, 7, 8}) {
            due("count(" + what + ")", y.count(what), 0);
        }

        sentence(7, "Removes a line. This is a change.");
        due("states", y.count(9), 8);
        due("undo()", y.undo(), 7);
        due("lines", y.count(0), 1);
        PoemPages z = poem("a /", "~ b", "c");
        due("a half-line that is first in its stanza", z.line(1, 4), 0);
        due("remove(0)", z.remove(0), 2);
        due("stays first", z.line(0, 4), 0);
        due("undo()", z.undo(), 3);
        due("the end of the stanza is back", z.line(0, 5), 1);
        PoemPages w = poem("a", "b /", "~ c");
        due("remove(1)", w.remove(1), 2);
        due("with the line its end of the stanza goes", w.line(1, 4), 1);
        due("stanzas", w.count(1), 1);
    }

    // ---- promise 8

    private static void badMove(int from, int n, int to) {
        changesNothing(BoundaryTest::some, "move(" + from + ", " + n + ", " + to + ") of four lines", BAD, x -> x.move(from, n, to));
    }

    /** Every move of five lines, beside lists of letters. */
    private static void allMoves() {
        for (int from = -1; from <= 6; from++) {
            for (int n = -1; n <= 7; n++) {
                for (int to = -1; to <= 6; to++) {
                    PoemPages x = poem("a", "b /", "c", "d", "e");
                    StringBuilder all = new StringBuilder("abcde");
                    boolean can = n >= 1 && from >= 0 && from + n <= 5 && to >= 0 && to <= 5 - n;
                    if (can) {
                        String moved = all.substring(from, from + n);
                        all.delete(from, from + n).insert(to, moved);
                    }
                    int stanzas = all.charAt(4) == 'b' ? 1 : 2;
                    String call = "move(" + from + ", " + n + ", " + to + ")";
                    due(call, x.move(from, n, to), can ? stanzas : BAD);
                    same(call, order(x), all.toString());
                    due("states behind " + call, x.count(9), can ? 6 : 5);
                }
            }
        }
    }

    private static void move() {
        sentence(8, "- `from`: the first one");
        allMoves();
        badMove(-1, 1, 0);
        badMove(4, 1, 0);
        badMove(MAX, 1, 0);
        badMove(MIN, 1, 0);
        due("the last one", some().move(3, 1, 0), 3);

        sentence(8, "- `n`: how many, at least 1; all must exist");
        badMove(0, 0, 0);
        badMove(0, -1, 0);
        badMove(0, 5, 0);
        badMove(1, 4, 0);
        badMove(3, 2, 0);
        badMove(4, 0, 0);
        badMove(0, MAX, 0);
        badMove(0, MIN, 0);
        badMove(1, MAX, 0);
        badMove(MAX, MAX, 0);
        badMove(MIN, MIN, 0);
        badMove(MAX, MIN, 0);
        badMove(MIN, MAX, 0);
        badMove(3, MAX - 2, 0);
        due("all of them", some().move(0, 4, 0), 3);
        due("up to the last one", some().move(1, 3, 0), 3);

        sentence(8, "- `to`: the number that the first of them gets, 0 to the number of the other lines");
        badMove(0, 1, 4);
        badMove(0, 1, -1);
        badMove(0, 4, 1);
        badMove(0, 4, -1);
        badMove(0, 2, 3);
        badMove(2, 2, 3);
        badMove(0, 1, MAX);
        badMove(0, 1, MIN);
        PoemPages x = poem("a", "b", "c", "d", "e");
        due("move(0, 2, 3)", x.move(0, 2, 3), 1);
        same("to the end", order(x), "cdeab");
        due("move(3, 2, 0)", x.move(3, 2, 0), 1);
        same("to the beginning", order(x), "abcde");
        due("move(1, 3, 2)", x.move(1, 3, 2), 1);
        same("over itself, by one", order(x), "aebcd");
        due("move(2, 3, 1)", x.move(2, 3, 1), 1);
        same("and back", order(x), "abcde");

        sentence(8, "Returns the number of stanzas then; BAD.");
        PoemPages y = poem("a /", "b", "c");
        due("the end of a stanza to the end of the poem", y.move(0, 1, 2), 1);
        due("and ahead of the last line", y.move(2, 1, 1), 2);
        PoemPages full = poem(times(24, "z /"));
        due("of 24 stanzas", full.move(0, 12, 12), 24);
        due("of 24 stanzas", full.move(0, 24, 0), 24);
        due("of one line", poem("z").move(0, 1, 0), 1);

        sentence(8, "Moves lines that follow one another, with all that they are. This is a change.");
        PoemPages z = poem("a", "~>>>>> b c /", "d");
        due("move(1, 1, 0)", z.move(1, 1, 0), 2);
        lines("words", z, 1, 2, 1, 1);
        lines("steps", z, 2, 5, 0, 0);
        lines("half-lines", z, 3, 1, 0, 0);
        lines("ends of stanzas", z, 5, 1, 0, 0);
        due("states", z.count(9), 4);
        due("to where it stands", z.move(0, 1, 0), 2);
        due("is a change, too", z.count(9), 5);
        z.undo();
        z.undo();
        same("undo()", order(z), "abd");
    }

    // ---- promise 9

    private static void toggle() {
        sentence(9, "- `line`: the line");
        for (int out : new int[] {-1, 4, 5, 24}) {
            changesNothing(BoundaryTest::some, "toggle(" + out + ", false)", BAD, x -> x.toggle(out, false));
            changesNothing(BoundaryTest::some, "toggle(" + out + ", true)", BAD, x -> x.toggle(out, true));
        }
        for (int out : FAR) {
            changesNothing(BoundaryTest::some, "toggle(" + out + ", false)", BAD, x -> x.toggle(out, false));
            changesNothing(BoundaryTest::some, "toggle(" + out + ", true)", BAD, x -> x.toggle(out, true));
        }
        changesNothing(PoemPages::new, "toggle(0, true) without lines", BAD, x -> x.toggle(0, true));
        changesNothing(() -> full("a"), "toggle(24, true)", BAD, x -> x.toggle(24, true));

        sentence(9, "- `half`: whether half-lines are meant, otherwise ends of stanzas");
        PoemPages x = poem("a", "b", "c");
        due("toggle(1, true)", x.toggle(1, true), 1);
        lines("half-lines", x, 3, 0, 1, 0);
        lines("ends of stanzas", x, 5, 0, 0, 0);
        due("toggle(1, false)", x.toggle(1, false), 1);
        lines("half-lines", x, 3, 0, 1, 0);
        lines("ends of stanzas", x, 5, 0, 1, 0);

        sentence(9, "Returns 1 if it is so then, otherwise 0; BAD.");
        due("toggle(1, true)", x.toggle(1, true), 0);
        due("toggle(1, false)", x.toggle(1, false), 0);
        due("the first line", x.toggle(0, true), 1);
        due("the first line", x.toggle(0, true), 0);
        due("the last line of the poem", x.toggle(2, false), 1);
        due("the last line of the poem", x.toggle(2, false), 0);
        PoemPages full = full("z");
        due("toggle(23, true)", full.toggle(23, true), 1);
        due("toggle(23, false)", full.toggle(23, false), 1);

        sentence(9, "Makes a line the last one of its stanza, or no longer that; or makes it a half-line, or no longer that. "
            + "This is a change.");
        PoemPages y = poem("a", "~>> b c", "~ d");
        due("toggle(0, false)", y.toggle(0, false), 1);
        due("stanzas", y.count(1), 2);
        lines("who leans", y, 4, 0, 0, 1);
        due("toggle(1, false)", y.toggle(1, false), 1);
        due("stanzas", y.count(1), 3);
        lines("who leans", y, 4, 0, 0, 0);
        due("toggle(2, false)", y.toggle(2, false), 1);
        due("no stanza stands behind the last line", y.count(1), 3);
        due("toggle(0, true)", y.toggle(0, true), 1);
        lines("the first line does not lean", y, 4, 0, 0, 0);
        due("states", y.count(9), 7);
        lines("words stay", y, 1, 1, 2, 1);
        lines("steps stay", y, 2, 0, 2, 0);
        y.undo();
        y.undo();
        due("undo()", y.line(2, 5), 0);
        y.undo();
        y.undo();
        lines("who leans", y, 4, 0, 1, 1);
        due("stanzas", y.count(1), 1);
    }

    // ---- promise 10

    private static void lineProperties() {
        sentence(10, "- `line`: the line");
        for (int what = 0; what <= 9; what++) {
            int property = what;
            changesNothing(BoundaryTest::some, "line(-1, " + what + ")", BAD, x -> x.line(-1, property));
            changesNothing(BoundaryTest::some, "line(4, " + what + ")", BAD, x -> x.line(4, property));
            due("line(3, " + what + ")", some().line(3, what), new int[] {1, 1, 0, 1, 0, 1, 4, 6, 1, 2}[what]);
            due("line(24, " + what + ")", full("z").line(24, what), BAD);
        }
        for (int out : FAR) {
            changesNothing(BoundaryTest::some, "line(" + out + ", 0)", BAD, x -> x.line(out, 0));
        }
        PoemPages removed = some();
        removed.remove(3);
        due("a line that was there", removed.line(3, 0), BAD);

        sentence(10, "- `what`: 0: the number of its letters; 1: of its words; 2: of its steps; 3: 1 if it is a half-line, "
            + "otherwise 0; 4: 1 if it leans, otherwise 0; 5: 1 if \"/\" or toggle() made it the last one of its stanza, "
            + "otherwise 0; 6: its number by which lines are counted; 7: its first row; 8: the number of its rows; 9: its stanza");
        for (int out : new int[] {-1, 10, 11, MIN, MAX}) {
            changesNothing(BoundaryTest::some, "line(0, " + out + ")", BAD, x -> x.line(0, out));
            due("line(4, " + out + ")", some().line(4, out), BAD);
        }
        String word = "a".repeat(16);
        PoemPages x = poem(word + " " + word + " " + word + " " + word + " " + "a".repeat(12), "a ".repeat(40), "a", "~>>>>>b", "c /");
        lines("letters", x, 0, 76, 40, 1, 1, 1);
        lines("words", x, 1, 5, 40, 1, 1, 1);
        lines("steps", x, 2, 0, 0, 0, 5, 0);
        lines("half-lines", x, 3, 0, 0, 0, 1, 0);
        lines("leaning", x, 4, 0, 0, 0, 1, 0);
        lines("ends of stanzas", x, 5, 0, 0, 0, 0, 1);
        lines("numbers", x, 6, 1, 2, 3, 3, 4);
        lines("first rows", x, 7, 0, 5, 8, 9, 10);
        lines("rows", x, 8, 5, 3, 1, 1, 1);
        lines("stanzas", x, 9, 0, 0, 0, 0, 0);
        lines("the last line of the poem without \"/\"", poem("a /", "b"), 5, 1, 0);

        sentence(10, "Returns the property; BAD.");
        PoemPages y = with(new PoemPages(), 12, 4, 6, 8, 0);
        text(y, ">" + "abc ".repeat(19) + "xyz");
        for (int k = 0; k < 24; k++) {
            y.insert(k);
        }
        due("the greatest number of rows", y.line(23, 8), 20);
        due("the greatest first row", y.line(23, 7), 460);
        due("the greatest number", y.line(23, 6), 24);
    }

    private static void stanzasAndNumbersOfLines() {
        sentence(10, "A stanza consists of lines that follow one another; it ends behind each line that is the last one of its "
            + "stanza, and behind the last line of the poem. Stanzas are numbered from 0.");
        lines("one line", poem("a"), 9, 0);
        lines("one line that is the last one", poem("a /"), 9, 0);
        due("stanzas", poem("a /").count(1), 1);
        lines("every line", poem("a /", "b /", "c /"), 9, 0, 1, 2);
        lines("all but the last one", poem("a /", "b /", "c"), 9, 0, 1, 2);
        lines("the last one only", poem("a", "b", "c /"), 9, 0, 0, 0);
        due("24 stanzas", poem(times(24, "z /")).line(23, 9), 23);
        due("one stanza", full("z").line(23, 9), 0);

        sentence(10, "a half-line leans if a line is ahead of it in the same stanza.");
        lines("leaning", poem("~ a", "~ b", "~ c /", "~ d", "e", "~ f /", "~ g"), 4, 0, 1, 1, 0, 0, 1, 0);
        PoemPages x = poem("a", "~ b");
        due("toggle(0, false)", x.toggle(0, false), 1);
        lines("behind the end of a stanza", x, 4, 0, 0);
        lines("it is a half-line nevertheless", x, 3, 0, 1);
        due("toggle(0, false)", x.toggle(0, false), 0);
        due("move(1, 1, 0)", x.move(1, 1, 0), 1);
        lines("the first line", x, 4, 0, 0);

        sentence(10, "The number of the first line is 1; that of each other one is 1 more than that of the line ahead, "
            + "but the same if it leans.");
        lines("numbers", poem("~ a", "~ b", "~ c /", "~ d", "e", "~ f /", "~ g"), 6, 1, 1, 1, 2, 3, 3, 4);
        PoemPages half = poem(times(24, "~ z"));
        due("24 half-lines", half.line(23, 6), 1);
        PoemPages whole = poem(times(24, "~ z /"));
        due("24 stanzas of a half-line", whole.line(23, 6), 24);
    }

    // ---- promise 11

    private static void letter() {
        sentence(11, "- `line`: the line");
        changesNothing(BoundaryTest::some, "letter(-1, 0)", BAD, x -> x.letter(-1, 0));
        changesNothing(BoundaryTest::some, "letter(4, 0)", BAD, x -> x.letter(4, 0));
        for (int out : FAR) {
            changesNothing(BoundaryTest::some, "letter(" + out + ", 0)", BAD, x -> x.letter(out, 0));
        }
        due("letter(23, 0)", full("a").letter(23, 0), 'z');
        due("letter(24, 0)", full("a").letter(24, 0), BAD);

        sentence(11, "- `i`: the index, from 0");
        PoemPages y = poem("  ~ > az   q  / ");
        int[] bytes = {'a', 'z', 32, 'q'};
        for (int i = 0; i < bytes.length; i++) {
            due("letter(0, " + i + ")", y.letter(0, i), bytes[i]);
        }
        for (int out : new int[] {-1, -2, MIN}) {
            changesNothing(BoundaryTest::some, "letter(0, " + out + ")", BAD, x -> x.letter(0, out));
        }

        sentence(11, "Returns the byte; BAD if there is no such line or i is negative; NONE if the line is not so long.");
        for (int i : new int[] {4, 5, 79, 80, 81, 256, MAX}) {
            due("letter(0, " + i + ")", y.letter(0, i), NONE);
            changesNothing(BoundaryTest::some, "letter(3, " + i + ")", NONE, x -> x.letter(3, i));
        }
        due("letter(1, MAX)", y.letter(1, MAX), BAD);
        due("letter(-1, -1)", y.letter(-1, -1), BAD);
        PoemPages long80 = poem("a ".repeat(39) + "yz");
        due("letter(0, 79)", long80.letter(0, 79), 'z');
        due("letter(0, 80)", long80.letter(0, 80), NONE);
        PoemPages long79 = poem("a ".repeat(40));
        due("letter(0, 78)", long79.letter(0, 78), 'a');
        due("no blank stands behind the last word", long79.letter(0, 79), NONE);

        sentence(11, "NONE is not an error; it means that there is no such thing, and is returned only if no error applies.");
        due("letter(4, 99)", some().letter(4, 99), BAD);
        due("letter(0, -1)", some().letter(0, -1), BAD);
        due("letter(0, 0) without lines", new PoemPages().letter(0, 0), BAD);
        due("letter(0, MAX) without lines", new PoemPages().letter(0, MAX), BAD);
    }

    // ---- promise 12

    private static void set() {
        int[] least = {12, 4, 0, 0, 0}, greatest = {60, 30, 6, 8, 30}, first = {30, 12, 2, 4, 6};

        sentence(12, "- `what`: its number");
        for (int what : new int[] {-1, 5, 6, 11, 15, MIN, MAX}) {
            for (int value : new int[] {0, 4, 12}) {
                changesNothing(BoundaryTest::some, "set(" + what + ", " + value + ")", BAD, x -> x.set(what, value));
            }
        }

        sentence(12, "- `value`: the new value, as told above");
        for (int w = 0; w < 5; w++) {
            int what = w;
            for (int value : new int[] {least[w] - 1, greatest[w] + 1, MIN, MAX, -256 + least[w], 256 + least[w], -greatest[w] - 1}) {
                changesNothing(BoundaryTest::some, "set(" + w + ", " + value + ")", BAD, x -> x.set(what, value));
                due("set(" + w + ", " + value + ") of a new object", new PoemPages().set(w, value), BAD);
            }
            PoemPages x = new PoemPages();
            int before = first[w];
            for (int value = least[w]; value <= greatest[w]; value++) {
                due("set(" + w + ", " + value + ")", x.set(w, value), before);
                due("count(" + (11 + w) + ")", x.count(11 + w), value);
                before = value;
            }
            for (int other = 0; other < 5; other++) {
                due("setting " + other, x.count(11 + other), other == w ? greatest[w] : first[other]);
            }
        }

        sentence(12, "Returns the value before; BAD.");
        PoemPages x = new PoemPages();
        due("set(0, 60)", x.set(0, 60), 30);
        due("set(0, 61)", x.set(0, 61), BAD);
        due("set(0, 12)", x.set(0, 12), 60);
        due("set(0, 11)", x.set(0, 11), BAD);
        due("set(0, 30)", x.set(0, 30), 12);

        sentence(12, "Sets a setting. This is a change.");
        due("states", x.count(9), 3);
        due("the same value", x.set(0, 30), 30);
        due("is a change, too", x.count(9), 4);
        x.undo();
        x.undo();
        due("count(11)", x.count(11), 12);
        PoemPages y = poem("abcdefghijklm");
        due("rows with the width 30", y.count(2), 1);
        y.set(0, 12);
        due("rows with the width 12", y.count(2), 2);
        y.undo();
        due("rows after undo()", y.count(2), 1);
    }

    // ---- promise 13

    private static void undo() {
        sentence(13, "Returns how many states are left in the history; STATE if there is none.");
        changesNothing(PoemPages::new, "undo()", STATE, x -> x.undo());
        changesNothing(() -> text(new PoemPages(), "abc"), "undo()", STATE, x -> x.undo());
        PoemPages one = poem("a");
        due("undo() of one", one.undo(), 0);
        due("undo() of none", one.undo(), STATE);
        due("lines", one.count(0), 0);
        PoemPages eight = some();
        for (int left = 7; left >= 0; left--) {
            due("undo()", eight.undo(), left);
            due("count(9)", eight.count(9), left);
        }
        due("undo() of none", eight.undo(), STATE);
        due("undo() of none again", eight.undo(), STATE);
        due("count(9)", eight.count(9), 0);

        sentence(13, "A history of at most 8 states is kept: each change records the state before it (lines and settings), "
            + "and when one more is recorded, the oldest one is dropped.");
        for (int changes = 0; changes <= 40; changes++) {
            PoemPages x = new PoemPages();
            for (int i = 1; i <= changes; i++) {
                due("set(0, " + (12 + i) + ")", x.set(0, 12 + i), i == 1 ? 30 : 11 + i);
                due("count(9)", x.count(9), Math.min(i, 8));
            }
            int kept = Math.min(changes, 8);
            for (int i = 1; i <= kept; i++) {
                due("undo() " + i + " of " + changes, x.undo(), kept - i);
                due("count(11)", x.count(11), changes == i ? 30 : 12 + changes - i);
            }
            due("undo() behind them", x.undo(), STATE);
        }
        PoemPages lines = text(new PoemPages(), "a");
        for (int n = 1; n <= 24; n++) {
            lines.insert(0);
        }
        for (int n = 23; n >= 16; n--) {
            due("undo()", lines.undo(), n - 16);
            due("lines", lines.count(0), n);
        }
        due("undo()", lines.undo(), STATE);
        due("lines", lines.count(0), 16);

        sentence(13, "Changes are the calls of insert(), replace(), remove(), move(), toggle() and set() that return no error.");
        PoemPages y = text(new PoemPages(), "a");
        due("insert(0)", y.insert(0) + 10 * y.count(9), 11);
        due("insert(2)", y.insert(2) + 10 * y.count(9), 8);
        due("insert(0)", y.insert(0) + 10 * y.count(9), 22);
        due("replace(0)", y.replace(0) + 10 * y.count(9), 31);
        due("replace(2)", y.replace(2) + 10 * y.count(9), 28);
        due("remove(0)", y.remove(0) + 10 * y.count(9), 41);
        due("remove(1)", y.remove(1) + 10 * y.count(9), 38);
        due("move(0, 1, 0)", y.move(0, 1, 0) + 10 * y.count(9), 51);
        due("move(0, 1, 1)", y.move(0, 1, 1) + 10 * y.count(9), 48);
        due("toggle(0, true)", y.toggle(0, true) + 10 * y.count(9), 61);
        due("toggle(1, true)", y.toggle(1, true) + 10 * y.count(9), 58);
        due("set(4, 1)", y.set(4, 1) + 10 * y.count(9), 76);
        due("set(4, 31)", y.set(4, 31) + 10 * y.count(9), 68);
        due("type(98)", y.type('b') + 10 * y.count(9), 72);
        due("bestWidth(0)", y.bestWidth(0) + 100 * y.count(9), 712);
        due("leastHeight(1)", y.leastHeight(1) + 10 * y.count(9), 74);
        due("clear()", y.clear() + 10 * y.count(9), 72);
        due("a fault", y.insert(0) + 3000 + 10000 * y.count(9), 71000);

        sentence(13, "undo() removes the latest one and restores it.");
        PoemPages z = new PoemPages();
        long[] digests = new long[9];
        String[] lines8 = {"a", "~ b", "> c /", "d e", "~ > f", "g", "h /", "i"};
        for (int i = 0; i < 8; i++) {
            digests[i] = z.digest();
            text(z, lines8[i]).insert(i / 2);
            z.clear();
        }
        for (int i = 7; i >= 0; i--) {
            due("undo()", z.undo(), i);
            due("all as before", z.digest(), digests[i]);
        }
        z.set(0, 40);
        z.undo();
        z.set(0, 50);
        due("a change behind undo() takes its place", z.undo(), 0);
        due("count(11)", z.count(11), 30);

        sentence(13, "The text does not belong to the state.");
        PoemPages w = poem("a");
        text(w, "bc");
        due("undo()", w.undo(), 0);
        due("count(10)", w.count(10), 2);
        due("insert(0)", w.insert(0), 1);
        same("the text of now", words(w, 0), "bc");
        text(w, "?");
        due("undo() with a fault in the text", w.undo(), 0);
    }

    // ---- promise 14, the rows

    private static void rowColumns() {
        sentence(14, "- `row`: the row");
        for (int what = 0; what <= 8; what++) {
            int property = what;
            changesNothing(BoundaryTest::some, "row(-1, " + what + ")", BAD, x -> x.row(-1, property));
            changesNothing(BoundaryTest::some, "row(7, " + what + ")", NONE, x -> x.row(7, property));
            changesNothing(BoundaryTest::some, "row(480, " + what + ")", NONE, x -> x.row(480, property));
            due("row(MIN, " + what + ")", some().row(MIN, what), BAD);
            due("row(MAX, " + what + ")", some().row(MAX, what), NONE);
            due("row(0, " + what + ") without lines", new PoemPages().row(0, what), NONE);
            due("row(-1, " + what + ") without lines", new PoemPages().row(-1, what), BAD);
        }

        sentence(14, "- `what`: 0: its line; 1: which row of its line it is, from 0; 2: its page; 3: its place on the page; "
            + "4: its first column; 5: its length; 6: the number that it shows (0 if none); 7: 1 if it begins within a word, "
            + "otherwise 0; 8: its width");
        for (int out : new int[] {-1, 9, 10, MIN, MAX}) {
            changesNothing(BoundaryTest::some, "row(0, " + out + ")", BAD, x -> x.row(0, out));
        }
        PoemPages some = some();
        // "def /", "> a bc /": a line each; "> ghijklm nopqrstuvwx y /", "~ z"; the width 13, the step 3, the run-over 4
        rows("lines", some, 0, 0, 1, 2, 2, 2, 2, 3);
        rows("rows of lines", some, 1, 0, 0, 0, 1, 2, 3, 0);
        rows("pages", some, 2, 0, 0, 1, 1, 1, 1, 2);
        rows("places", some, 3, 0, 2, 0, 1, 2, 3, 0);
        rows("first columns", some, 4, 0, 3, 3, 7, 7, 7, 0);
        rows("lengths", some, 5, 3, 4, 7, 6, 5, 1, 1);
        rows("numbers", some, 6, 0, 0, 0, 0, 0, 0, 0);
        rows("within words", some, 7, 0, 0, 0, 0, 1, 0, 0);
        rows("widths", some, 8, 3, 7, 10, 13, 12, 8, 1);

        sentence(14, "Returns the property; BAD if row is negative or what is out of range; NONE if there are not so many rows.");
        for (int row : new int[] {-1, 7, 479, 480, MIN, MAX}) {
            for (int what : new int[] {-1, 9, MIN, MAX}) {
                due("row(" + row + ", " + what + ")", some.row(row, what), BAD);
            }
        }
        due("row(0, 9) without lines", new PoemPages().row(0, 9), BAD);

        sentence(14, "Columns are numbered from 0 to the width - 1.");
        PoemPages wide = with(poem("a ".repeat(29) + "bc"), 60);
        rows("a row of 60", wide, 5, 60);
        rows("its width", wide, 8, 60);
        due("the last column", wide.at(0, 0, 59), 'c');
        wide.set(0, 59);
        rows("59 are too few", wide, 5, 57, 2);

        sentence(14, "The base of a line is the number of its steps times the step; a half-line leans if a line is ahead of it "
            + "in the same stanza. The first row of a line begins at its base,");
        for (int step = 0; step <= 6; step++) {
            PoemPages x = with(poem("a", ">a", ">>a", ">>>a", ">>>>a", ">>>>>a"), 60, 12, step);
            rows("the step " + step, x, 4, 0, step, 2 * step, 3 * step, 4 * step, 5 * step);
        }

        sentence(14, "that of a line that leans one column behind the end of the last row of the line ahead "
            + "(with one column between them empty: at the first column of that row + its length + 1).");
        rows("behind one letter", poem("a", "~ b", "~>>>>> c"), 4, 0, 2, 4);
        rows("behind two rows", with(poem("abcdefghijkl m", "~ b"), 12), 4, 0, 4, 6);
        rows("from the base without leaning", poem("~> a", "~ b /", "~>> c"), 4, 2, 4, 4);

        sentence(14, "The other rows of a line begin at its base + the run-over.");
        for (int runOver = 0; runOver <= 8; runOver++) {
            PoemPages x = with(poem("abcdefghijk abcdefghijk", "~ > abcdefghijk a", "> abcdefghijk a"), 20, 30, 2, runOver);
            // the second line leans, and its first row is cut behind what stands ahead
            int first = Math.min(runOver + 12, 14), second = Math.min(runOver + 2, 14);
            due("row(1, 4)", x.row(1, 4), runOver);
            due("row(2, 4)", x.row(2, 4), first);
            due("row(3, 4)", x.row(3, 4), second);
            due("a line of one row has no other", x.line(2, 8), 1);
        }

        sentence(14, "None of these columns is greater than the width - 6: if it is, the width - 6 is taken.");
        for (int width = 12; width <= 60; width++) {
            PoemPages x = with(poem(">>>>> a", "> abcdef abcdef"), width, 12, 6, 8);
            due("the base 30 in " + width, x.row(0, 4), Math.min(30, width - 6));
            due("the base 6 in " + width, x.row(1, 4), 6);
            if (x.line(1, 8) > 1) {
                due("the base 6 + the run-over 8 in " + width, x.row(2, 4), Math.min(14, width - 6));
            }
        }
        for (int letters = 1; letters <= 16; letters++) {
            PoemPages x = with(poem("a".repeat(letters), "~ bcdefg"), 20);
            due("behind " + letters + " letters", x.row(1, 4), Math.min(letters + 1, 14));
            due("in one row", x.line(1, 8), 1);
            due("up to the last column", x.row(1, 8), Math.min(letters + 7, 20));
        }
        for (int runOver = 0; runOver <= 8; runOver++) {
            PoemPages x = with(poem("abcdefghijklm"), 12, 12, 2, runOver);
            due("the run-over " + runOver + " in 12", x.row(1, 4), Math.min(runOver, 6));
        }
        due("each on its own: the base is taken as it is for the others", with(poem(">>>>> abcdefg"), 35, 12, 6, 0).row(1, 4), 29);
        due("and not as it was cut down", with(poem(">> abcdefg"), 17, 12, 6, 0).row(1, 4), 11);
    }

    private static void rowWords() {
        sentence(14, "A row has a first column, and letters and blanks from there on.");
        PoemPages forty = with(poem("a ".repeat(39) + "bc"), 40, 4, 2, 8);
        // 20 words in the first row, 16 from the column 8 on, and four
        rows("40 words", forty, 5, 39, 31, 8);
        same("the first row", placeOf(forty, 0, 0), "a ".repeat(20));
        same("the second row", placeOf(forty, 0, 1), " ".repeat(8) + "a ".repeat(16));
        same("the third row", placeOf(forty, 0, 2), " ".repeat(8) + "a a a bc" + " ".repeat(24));

        sentence(14, "The words of a line are put into rows one after the other:");
        PoemPages words = with(poem("> ab   cde fghij klmnopqrstuvw x"), 12, 12, 2, 1);
        rows("first columns", words, 4, 2, 3, 3, 3);
        rows("within words", words, 7, 0, 0, 0, 1);
        same("ab and cde", placeOf(words, 0, 0), "  ab cde    ");
        same("fghij", placeOf(words, 0, 1), "   fghij    ");
        same("as many of the long one as find room", placeOf(words, 0, 2), "   klmnopqrs");
        same("the others, and x", placeOf(words, 0, 3), "   tuvw x   ");

        sentence(14, "behind another word of the row, with one blank between them, if the word ends at the column width - 1 "
            + "or ahead of it then; otherwise at the beginning of a new row.");
        for (int letters = 1; letters <= 8; letters++) {
            PoemPages x = with(poem("abcde " + "z".repeat(letters)), 12);
            due("5 and " + letters + " letters in 12: rows", x.count(2), letters <= 6 ? 1 : 2);
            due("length", x.row(0, 5), letters <= 6 ? 6 + letters : 5);
            PoemPages y = with(poem("> abcde " + "z".repeat(letters)), 14);
            due("the same set in by 2 in 14: rows", y.count(2), letters <= 6 ? 1 : 2);
            due("width", y.row(0, 8), letters <= 6 ? 8 + letters : 7);
        }
        PoemPages leaning = with(poem("abcdefg", "~ ab cd e"), 12);
        // the half-line begins at the column 6, and "cd" would end at 10, " e" at 12
        rows("behind the line ahead", leaning, 4, 0, 6, 4);
        rows("lengths", leaning, 5, 7, 5, 1);
        PoemPages others = with(poem("abcdefghijkl abcd efg hi"), 12);
        rows("the other rows, up to the last column", others, 5, 12, 8, 2);
        others.set(3, 5);
        rows("and one column too far", others, 5, 12, 4, 6);
        rows("none of them begins within a word", others, 7, 0, 0, 0);

        sentence(14, "A word that is too long for a row at whose beginning it stands is cut:");
        PoemPages y = with(poem("abcdefghijkl"), 12);
        rows("a word of 12 in 12", y, 5, 12);
        text(y, "abcdefghijklm").replace(0);
        rows("a word of 13 in 12", y, 5, 12, 1);
        rows("within the word", y, 7, 0, 1);
        text(y, "a bcdefghijklm").replace(0);
        // 8 columns are left behind the run-over
        rows("a word that begins a row", y, 5, 1, 8, 4);
        rows("within the word", y, 7, 0, 0, 1);
        text(y, "a bcdefghi").replace(0);
        rows("a word of just as many", y, 5, 10);
        text(y, "abcd bcdefghi").replace(0);
        rows("a word of just as many in a row of its own", y, 5, 4, 8);
        rows("not within a word", y, 7, 0, 0);
        text(y, "abcdefghijk lm").replace(0);
        rows("a word that would stand behind another is not cut", y, 5, 11, 2);
        rows("not within a word", y, 7, 0, 0);

        sentence(14, "as many of its letters as find room stay in that row, and the others go to a new row, as if they were a word.");
        PoemPages z = with(poem(">>>>> abcdefghijklmnop q"), 12, 12, 6, 8);
        // from the column 6 on, six letters find room
        rows("16 letters and one", z, 5, 6, 6, 6);
        rows("within the word", z, 7, 0, 1, 1);
        same("what stands behind the rest", "" + (char) z.at(0, 2, 9) + (char) z.at(0, 2, 10) + (char) z.at(0, 2, 11), "p q");
        text(z, ">>>>> abcdefghijklmnop qr").replace(0);
        rows("16 letters and two", z, 5, 6, 6, 4, 2);
        rows("within the word", z, 7, 0, 1, 1, 0);
        text(z, ">>>>> abcdefghijkl").replace(0);
        rows("12 letters, no row is empty", z, 5, 6, 6);
        text(z, ">>>>> abcdefghijkl m").replace(0);
        rows("behind a rest that fills its row", z, 5, 6, 6, 1);
        rows("within the word", z, 7, 0, 1, 0);
        text(z, ">>>>> abcdefghijklm").replace(0);
        rows("13 letters", z, 5, 6, 6, 1);
        text(z, ">>>>> abcdefg abcdefg").replace(0);
        rows("two words that are cut", z, 5, 6, 1, 6, 1);
        rows("within words", z, 7, 0, 1, 0, 1);
        rows("rows of the line", z, 1, 0, 1, 2, 3);
        PoemPages lean = with(poem("abcdefghijkl", "~ abcdefghi"), 12, 12, 2, 0);
        // the half-line has six columns first, and then all twelve
        rows("a half-line that is cut", lean, 4, 0, 6, 0);
        rows("lengths", lean, 5, 12, 6, 3);

        sentence(14, "The rows of all lines, in their order, are numbered from 0. The width of a row is its first column + its length.");
        PoemPages all = with(new PoemPages(), 12, 30, 6, 8, 30);
        text(all, ">" + "abc ".repeat(19) + "xyz");
        for (int k = 0; k < 24; k++) {
            all.insert(k);
        }
        due("480 rows", all.count(2), 480);
        due("row(479, 0)", all.row(479, 0), 23);
        due("row(479, 1)", all.row(479, 1), 19);
        due("row(479, 8)", all.row(479, 8), 9);
        due("row(480, 8)", all.row(480, 8), NONE);
        due("row(480, 9)", all.row(480, 9), BAD);
    }

    private static void rowNumbers() {
        sentence(14, "The first row of a line that does not lean shows its number if that is a multiple of 5.");
        PoemPages x = full("z");
        for (int k = 0; k < 24; k++) {
            due("row(" + k + ", 6)", x.row(k, 6), k == 4 || k == 9 || k == 14 || k == 19 ? k + 1 : 0);
        }
        rows("one that leans has the number 5", poem("a", "a", "a", "a", "~ a", "a", "~ a", "a"), 6, 0, 0, 0, 0, 0, 5, 0, 0);
        rows("a half-line that does not lean", poem("a", "a", "a", "a /", "~ a", "~ a"), 6, 0, 0, 0, 0, 5, 0);
        rows("the first row only", with(poem("a", "a", "a", "a", of(3)), 12), 6, 0, 0, 0, 0, 5, 0, 0);
        rows("with rows ahead", with(poem(of(2), of(2), "a", "a", of(2)), 12), 6, 0, 0, 0, 0, 0, 0, 5, 0);
        PoemPages y = with(poem("a", "a", "a", "a", "a", "a"), 12);
        rows("the fifth row", y, 6, 0, 0, 0, 0, 5, 0);
        text(y, of(3)).replace(2);
        rows("and no longer, when it goes on with the third line", y, 6, 0, 0, 0, 0, 0, 0, 5, 0);
        y.undo();
        rows("and again", y, 6, 0, 0, 0, 0, 5, 0);
        text(y, "abcdefghijklm").replace(1);
        y.toggle(2, true);
        rows("a row that begins within a word, ahead of it", y, 7, 0, 0, 1, 0, 0, 0, 0);
        y.set(0, 30);
        rows("none does", y, 7, 0, 0, 0, 0, 0, 0);
        rows("the fifth line that does not lean", y, 6, 0, 0, 0, 0, 0, 5);
    }

    // ---- promises 14 and 16, the pages

    private static void stanzasOnPages() {
        sentence(14, "A page has as many places for rows as the height says, numbered from 0; pages are numbered from 0.");
        PoemPages x = paged(4, 0, "a", "a", "a", "a");
        rows("four rows in 4", x, 2, 0, 0, 0, 0);
        rows("places", x, 3, 0, 1, 2, 3);
        add(x, "a");
        rows("five rows in 4", x, 2, 0, 0, 0, 0, 1);
        rows("places", x, 3, 0, 1, 2, 3, 0);
        PoemPages high = paged(30, 0, times(15, of(2)));
        due("30 rows in 30: pages", high.count(3), 1);
        due("the last place", high.row(29, 3), 29);
        add(high, "a");
        due("31 rows in 30: pages", high.count(3), 2);
        due("page of the last one", high.row(30, 2), 1);
        due("place of the last one", high.row(30, 3), 0);

        sentence(14, "Rows are put onto pages from the first one on, and a page is empty as long as no row stands on it.");
        due("no rows, no pages", new PoemPages().count(3), 0);
        rows("nothing is passed over ahead of the first stanza", poem("a /", "b"), 3, 0, 2);
        PoemPages filled = paged(4, 0, "a", "a", "a", "a /", "b");
        rows("nor at the beginning of a page", filled, 3, 0, 1, 2, 3, 0);
        rows("no page stays empty", filled, 2, 0, 0, 0, 0, 1);
        rows("a stanza that is greater than the first page", paged(4, 30, of(5) + "/", "b"), 2, 0, 0, 0, 0, 1, 1);
        due("no page behind the last row", paged(4, 0, "a", "a", "a", "a /").count(3), 1);

        sentence(14, "For each stanza: - If the page is not empty, one place is passed over ahead of the stanza;");
        PoemPages two = paged(4, 0, "a /", "b");
        rows("places", two, 3, 0, 2);
        due("at the place between", two.at(0, 1, 0), 32);
        pages("rows", two, 0, 2);
        pages("places", two, 1, 3);
        rows("ahead of each", paged(30, 30, times(15, "a /")), 3, 0, 2, 4, 6, 8, 10, 12, 14, 16, 18, 20, 22, 24, 26, 28);
        rows("with two behind it", paged(4, 0, "a", "a /", "b"), 3, 0, 1, 3);

        sentence(14, "but a new page begins instead if the places behind that are too few for the rows of the first line of the stanza,");
        rows("one behind it", paged(4, 0, "a", "a /", "b", "b"), 2, 0, 0, 0, 1);
        rows("none behind it", paged(4, 0, "a", "a", "a /", "b", "b"), 2, 0, 0, 0, 1, 1);
        rows("no place at all", paged(4, 0, "a", "a", "a", "a /", "b", "b"), 2, 0, 0, 0, 0, 1, 1);
        rows("two for two", paged(5, 0, "a", "a /", of(2), "b"), 2, 0, 0, 0, 0, 1);
        rows("two for three", paged(5, 0, "a", "a /", of(3), "b"), 2, 0, 0, 1, 1, 1, 1);
        rows("nothing is passed over then", paged(5, 0, "a", "a /", of(3), "b"), 3, 0, 1, 0, 1, 2, 3);
        rows("two for more than the height", paged(5, 0, "a", "a /", of(6), "b"), 2, 0, 0, 1, 1, 1, 1, 1, 2, 2);
        rows("only the first line counts", paged(5, 0, "a", "a /", "b", of(3)), 2, 0, 0, 0, 1, 1, 1);

        sentence(14, "or if the stanza has at most as many rows as the keep, and at most as many as the height, "
            + "and the places behind that are too few for all of its rows.");
        String[] four = {"a /", "b", "b", "b", "b"}, five = {"a /", "b", "b", "b", "b", "b"};
        String[] six = {"a /", "b", "b", "b", "b", "b", "b"};
        for (int keep = 0; keep <= 30; keep++) {
            rows("four places for four, keep " + keep, paged(6, keep, four), 2, 0, 0, 0, 0, 0);
            if (keep >= 5) {
                rows("four places for five, keep " + keep, paged(6, keep, five), 2, 0, 1, 1, 1, 1, 1);
                rows("three for five, as many as the height, keep " + keep, paged(5, keep, five), 2, 0, 1, 1, 1, 1, 1);
            } else {
                rows("four places for five, keep " + keep, paged(6, keep, five), 2, 0, 0, 0, 0, 0, 1);
                rows("three for five, as many as the height, keep " + keep, paged(5, keep, five), 2, 0, 0, 0, 0, 1, 1);
            }
            rows("three for six, more than the height, keep " + keep, paged(5, keep, six), 2, 0, 0, 0, 0, 1, 1, 1);
        }
        rows("the rows of all lines count", paged(6, 5, "a /", of(2), of(3)), 2, 0, 1, 1, 1, 1, 1);
        rows("and not the lines", paged(6, 4, "a /", of(2), of(3)), 2, 0, 0, 0, 1, 1, 1);
        PoemPages thirty = paged(30, 30, "a /");
        add(thirty, times(15, of(2)));
        due("thirty rows are kept", thirty.row(1, 2), 1);
        due("on one page", thirty.row(30, 2), 1);
        add(thirty, "b");
        due("thirty-one are not", thirty.row(1, 2), 0);
        due("their last one", thirty.row(31, 2), 1);
    }

    private static void linesOnPages() {
        sentence(14, "The rows of a line are put onto the next places.");
        PoemPages x = paged(10, 0, of(3), of(1), of(4));
        rows("places", x, 3, 0, 1, 2, 3, 4, 5, 6, 7);

        sentence(14, "If the places that are left on the page are too few for all rows of a line that is not the first one of the "
            + "stanza, a new page begins first, if the page is not empty.");
        rows("three for three", paged(4, 0, "a", of(3)), 2, 0, 0, 0, 0);
        rows("two for three", paged(4, 0, "a", "a", of(3)), 2, 0, 0, 1, 1, 1);
        rows("one for two", paged(4, 0, "a", "a", "a", of(2)), 2, 0, 0, 0, 1, 1);
        rows("none for one", paged(4, 0, "a", "a", "a", "a", "a"), 2, 0, 0, 0, 0, 1);
        rows("three for as many as the height", paged(4, 0, "a", of(4)), 2, 0, 1, 1, 1, 1);
        rows("three for more than the height", paged(4, 0, "a", of(5)), 2, 0, 1, 1, 1, 1, 2);
        rows("none for more than the height", paged(4, 0, "a", "a", "a", "a", of(5)), 2, 0, 0, 0, 0, 1, 1, 1, 1, 2);
        rows("a half-line that leans is a line, too", paged(4, 0, "a", "a", "a", "~ abcdefghijk a"), 2, 0, 0, 0, 1, 1);
        rows("not for the sake of the keep", paged(4, 30, "a", "a", "a", "a", "a"), 2, 0, 0, 0, 0, 1);

        sentence(14, "A new page begins, too, whenever a row finds no place.");
        rows("as many as the height", paged(4, 0, of(4)), 2, 0, 0, 0, 0);
        rows("one more", paged(4, 0, of(5)), 2, 0, 0, 0, 0, 1);
        rows("twice as many", paged(4, 0, of(8)), 2, 0, 0, 0, 0, 1, 1, 1, 1);
        PoemPages nine = paged(4, 30, of(9), "b /", "c");
        rows("one more than that", nine, 2, 0, 0, 0, 0, 1, 1, 1, 1, 2, 2, 2);
        rows("places", nine, 3, 0, 1, 2, 3, 0, 1, 2, 3, 0, 1, 3);
        PoemPages all = with(new PoemPages(), 12, 4, 6, 8, 30);
        text(all, ">" + "abc ".repeat(18) + "xyz /");
        for (int k = 0; k < 24; k++) {
            all.insert(k);
        }
        // 19 rows a stanza: five pages each, and three places are left on the last of them
        due("the greatest number of pages", all.count(3), 120);
        due("marked ones", all.count(6), 23);
        due("the last row", all.row(455, 2) * 10 + all.row(455, 3), 1192);
    }

    // ---- promise 15

    private static void at() {
        PoemPages x = paged(4, 0, "> ab c", "d /", "e", "f", "g");
        rows("pages", x, 2, 0, 0, 0, 1, 1);

        sentence(15, "- `page`: the page");
        due("at(1, 0, 0)", x.at(1, 0, 0), 'f');
        for (int out : new int[] {-1, 2, 119, 480, MIN, MAX}) {
            due("at(" + out + ", 0, 0)", x.at(out, 0, 0), BAD);
            changesNothing(BoundaryTest::some, "at(" + out + ", 0, 0)", out == 2 ? 'z' : BAD, y -> y.at(out, 0, 0));
        }
        due("without lines", new PoemPages().at(0, 0, 0), BAD);

        sentence(15, "- `place`: the place, 0 to the height - 1");
        due("at(0, 0, 2)", x.at(0, 0, 2), 'a');
        due("at(0, 3, 0)", x.at(0, 3, 0), 'e');
        due("at(1, 3, 0)", x.at(1, 3, 0), 32);
        for (int out : new int[] {-1, 4, 5, 30, MIN, MAX}) {
            due("at(0, " + out + ", 0)", x.at(0, out, 0), BAD);
            due("at(1, " + out + ", 0)", x.at(1, out, 0), BAD);
            changesNothing(BoundaryTest::some, "at(0, " + out + ", 0)", out == 4 ? 32 : BAD, y -> y.at(0, out, 0));
        }
        PoemPages high = paged(30, 0, times(15, of(2)));
        due("at(0, 29, 4)", high.at(0, 29, 4), 'a');
        due("at(0, 30, 4)", high.at(0, 30, 4), BAD);

        sentence(15, "- `column`: the column, 0 to the width - 1");
        due("at(0, 0, 11)", x.at(0, 0, 11), 32);
        due("at(0, 1, 0)", x.at(0, 1, 0), 'd');
        for (int out : new int[] {-1, 12, 13, 60, MIN, MAX}) {
            due("at(0, 0, " + out + ")", x.at(0, 0, out), BAD);
            due("at(0, 2, " + out + ")", x.at(0, 2, out), BAD);
            changesNothing(BoundaryTest::some, "at(0, 0, " + out + ")", out == 12 ? 32 : BAD, y -> y.at(0, 0, out));
        }
        PoemPages wide = with(poem("a ".repeat(29) + "bc"), 60);
        due("at(0, 0, 59)", wide.at(0, 0, 59), 'c');
        due("at(0, 0, 60)", wide.at(0, 0, 60), BAD);
        wide.set(0, 59);
        due("at(0, 0, 59)", wide.at(0, 0, 59), BAD);

        sentence(15, "Returns the byte of the letter; 32 if there is none; BAD.");
        same("the place 0", placeOf(x, 0, 0), "  ab c      ");
        same("the place 1", placeOf(x, 0, 1), "d           ");
        same("the place that was passed over", placeOf(x, 0, 2), "            ");
        same("the place 3", placeOf(x, 0, 3), "e           ");
        same("the places behind the last row", placeOf(x, 1, 2) + placeOf(x, 1, 3), " ".repeat(24));
        PoemPages cut = with(poem(">>>>> abcdefghijklmnop q", "~ xyz"), 12, 4, 6, 8);
        same("what is cut", placeOf(cut, 0, 0) + placeOf(cut, 0, 1) + placeOf(cut, 0, 2), "      abcdef      ghijkl      mnop q");
        same("what leans", placeOf(cut, 0, 3), "      xyz   ");
    }

    private static String placeOf(PoemPages x, int page, int place) {
        StringBuilder all = new StringBuilder();
        for (int column = 0; column < x.count(11); column++) {
            all.append((char) x.at(page, place, column));
        }
        return all.toString();
    }

    // ---- promise 16

    private static void page() {
        sentence(16, "- `page`: the page");
        for (int what = 0; what <= 4; what++) {
            int property = what;
            for (int out : new int[] {-1, 3, 120, 480, MIN, MAX}) {
                changesNothing(BoundaryTest::some, "page(" + out + ", " + what + ")", BAD, x -> x.page(out, property));
            }
            due("page(0, " + what + ") without lines", new PoemPages().page(0, what), BAD);
        }

        sentence(16, "- `what`: 0: the number of its rows; 1: the number of its places up to its last row, with those that were "
            + "passed over; 2: 1 if it is marked, otherwise 0; 3: its first row; 4: the number of lines whose first row stands on it");
        for (int out : new int[] {-1, 5, 6, MIN, MAX}) {
            changesNothing(BoundaryTest::some, "page(0, " + out + ")", BAD, x -> x.page(0, out));
            due("page(3, " + out + ")", some().page(3, out), BAD);
        }
        PoemPages x = paged(4, 0, "a /", "b", of(9) + "/", "c", "d");
        // 0: a - b; 1 and 2: the nine rows; 3: the last of them, - and c; 4: d
        rows("pages", x, 2, 0, 0, 1, 1, 1, 1, 2, 2, 2, 2, 3, 3, 3);
        pages("rows", x, 0, 2, 4, 4, 3);
        pages("places up to the last row", x, 1, 3, 4, 4, 4);
        pages("marked", x, 2, 0, 0, 0, 0);
        pages("first rows", x, 3, 0, 2, 6, 10);
        pages("lines that begin there: none, if all rows go on", x, 4, 2, 1, 0, 2);

        sentence(16, "Returns the property; BAD.");
        PoemPages all = with(new PoemPages(), 12, 4, 6, 8, 0);
        text(all, ">" + "abc ".repeat(19) + "xyz");
        for (int k = 0; k < 24; k++) {
            all.insert(k);
        }
        due("count(3)", all.count(3), 120);
        due("page(119, 3)", all.page(119, 3), 476);
        due("page(120, 3)", all.page(120, 3), BAD);
        all.set(1, 30);
        due("as the height grows, pages go", all.page(119, 3), BAD);
        due("count(3)", all.count(3), 24);
        due("page(23, 0)", all.page(23, 0), 20);
        due("page(24, 0)", all.page(24, 0), BAD);

        sentence(16, "A page is marked if it is not the last one, and the next page begins with a stanza.");
        pages("one page", paged(4, 0, "a /"), 2, 0);
        pages("the last line ends its stanza", paged(4, 0, "a", "a", "a", "a /"), 2, 0);
        pages("the stanza ends with the page", paged(4, 0, "a", "a", "a", "a /", "b"), 2, 1, 0);
        pages("the stanza goes on", paged(4, 0, "a", "a", "a", "a", "b"), 2, 0, 0);
        pages("the line goes on", paged(4, 0, of(5) + "/", "b"), 2, 0, 0);
        pages("the stanza ends one place ahead of the end", paged(4, 0, "a", "a", "a /", "b"), 2, 1, 0);
        pages("another stanza begins at the last place", paged(4, 0, "a", "a /", "b", "b"), 2, 0, 0);
        pages("and is one row long", paged(4, 0, "a", "a /", "b /", "c"), 2, 1, 0);
        pages("every page but the last one", paged(4, 0, times(7, "a /")), 2, 1, 1, 1, 0);
        PoemPages y = paged(4, 0, "a", "a", "a", "a /", "b");
        due("count(6)", y.count(6), 1);
        due("toggle(3, false)", y.toggle(3, false), 0);
        pages("the mark goes with the end of the stanza", y, 2, 0, 0);
        due("count(6)", y.count(6), 0);
    }

    // ---- promise 17

    private static void distances(String what, PoemPages x, int stanza, int... want) {
        String[] names = {"square", "wedge", " diamond", "glass "};
        for (int s = 0; s < 4; s++) {
            due(what + ": distance from " + names[s], text(x, names[s]).distance(stanza), want[s]);
        }
    }

    /** A stanza whose rows have the widths. */
    private static PoemPages widths(int... widths) {
        PoemPages x = new PoemPages();
        for (int w : widths) {
            add(x, "abcdefghijklmnop".substring(0, w));
        }
        return x;
    }

    private static void distance() {
        sentence(17, "- `stanza`: the stanza");
        for (int out : new int[] {-1, 3, 4, 23, 24, MIN, MAX}) {
            changesNothing(() -> someWith("glass"), "distance(" + out + ")", BAD, x -> x.distance(out));
        }
        changesNothing(() -> text(new PoemPages(), "square"), "distance(0) without lines", BAD, x -> x.distance(0));
        changesNothing(() -> someWith("square"), "distance(2)", 0, x -> x.distance(2));
        due("the 24th", text(poem(times(24, "z /")), "wedge").distance(23), 0);
        due("the 25th", text(poem(times(24, "z /")), "wedge").distance(24), BAD);

        sentence(17, "Returns the distance; BAD; -2000 - p if the text has the fault p as the name of a shape.");
        changesNothing(() -> someWith(""), "an empty text", -2000, x -> x.distance(0));
        changesNothing(() -> someWith(" "), "a blank", -2001, x -> x.distance(0));
        changesNothing(() -> someWith("  squar"), "letters that are no name", -2002, x -> x.distance(0));
        changesNothing(() -> someWith("square!"), "a byte behind", -2006, x -> x.distance(0));
        changesNothing(() -> someWith("square" + " ".repeat(73) + "s"), "the last byte", -2079, x -> x.distance(0));
        changesNothing(() -> someWith(" ".repeat(80)), "80 blanks", -2080, x -> x.distance(0));

        sentence(17, "If several of them apply to a call, the one that comes first in the description of the result is returned.");
        for (int out : new int[] {-1, 3, MIN, MAX}) {
            changesNothing(() -> someWith("?"), "BAD and a fault", BAD, x -> x.distance(out));
        }
        changesNothing(PoemPages::new, "BAD and a fault without lines", BAD, x -> x.distance(0));

        sentence(17, "Divisions round down.");
        // the aims: 10 10 10; 3 6 10; 5 10 5; 10 6 10
        distances("10 10 10", widths(10, 10, 10), 0, 0, 11, 10, 4);
        // 7 7; 3 7; 4 4; 7 7
        distances("7 7", widths(7, 7), 0, 0, 4, 6, 0);
        // 1 1 1; 0 0 1; 0 1 0; 1 0 1
        distances("1 1 1", widths(1, 1, 1), 0, 0, 2, 2, 1);

        sentence(17, "Let n be the number of rows of a stanza, and m the greatest width among them.");
        distances("one row", widths(16), 0, 0, 0, 0, 0);
        distances("one row of one letter", widths(1), 0, 0, 0, 0, 0);
        // the first column counts with the width: 12 2 of m 12: 12 12; 6 12; 8 8; 12 12
        distances("set in", poem(">>>>> ab", "ab"), 0, 10, 16, 10, 10);
        // rows, not lines: 12 and 5 of m 12
        distances("two rows of a line", with(poem("abcdefghijklm"), 12), 0, 7, 13, 7, 7);
        // each stanza by itself: 3 has m 3
        PoemPages two = poem("abcdefgh /", "abc", "a /", "abcdefghijkl");
        distances("the first one", two, 0, 0, 0, 0, 0);
        // 3 1 of m 3: 3 3; 1 3; 2 2; 3 3
        distances("the second one", two, 1, 2, 4, 2, 2);
        distances("the last one", two, 2, 0, 0, 0, 0);

        sentence(17, "The aim for its row i (from 0) is: for a square m; for a wedge m * (i + 1) / n;");
        PoemPages wedge = text(widths(2, 4, 6, 8, 11), "wedge");
        // 2 4 6 8 11 of m 11: 2 4 6 8 11
        due("a wedge as it is aimed at", wedge.distance(0), 0);
        due("its distance from a square", text(wedge, "square").distance(0), 24);
        due("a square as it is aimed at", text(widths(11, 11, 11), "square").distance(0), 0);
        due("its distance from a wedge", text(widths(11, 11, 11), "wedge").distance(0), 12);

        sentence(17, "for a glass m * (the greater one of i + 1 and n - i) / n.");
        // n 4 and m 11: 11 8 8 11; n 5 and m 11: 11 8 6 8 11
        due("four rows", text(widths(11, 8, 8, 11), "glass").distance(0), 0);
        due("five rows", text(widths(11, 8, 6, 8, 11), "glass").distance(0), 0);
        due("five rows of one length", text(widths(11, 11, 11, 11, 11), "glass").distance(0), 11);

        sentence(17, "for a diamond the lesser one of m and 2 * m * (the lesser one of i + 1 and n - i) / (n + 1);");
        // n 2: 4 4; n 3: 3 6 3; n 4: 2 4 4 2 of m 6
        distances("6 1", widths(6, 1), 0, 5, 8, 5, 5);
        distances("3 6 3", widths(3, 6, 3), 0, 6, 6, 0, 8);
        distances("2 6 4 2", widths(2, 6, 4, 2), 0, 10, 8, 2, 10);

        PoemPages most = with(new PoemPages(), 60, 30, 6, 8, 30);
        sentence(17, "The distance of a stanza from a shape is the sum of the differences, without their signs, between the "
            + "widths of its rows and their aims.");
        text(most, ">>>>>" + "abcd ".repeat(15));
        for (int k = 0; k < 24; k++) {
            most.insert(k);
        }
        due("rows", most.count(2), 96);
        due("the greatest width", most.count(8), 59);
        int[] sums = new int[4];
        for (int i = 0; i < 96; i++) {
            int w = most.row(i, 8), m = 59, n = 96;
            sums[0] += m - w;
            sums[1] += Math.abs(w - m * (i + 1) / n);
            sums[2] += Math.abs(w - Math.min(m, 2 * m * Math.min(i + 1, n - i) / (n + 1)));
            sums[3] += Math.abs(w - m * Math.max(i + 1, n - i) / n);
        }
        distances("24 lines of four rows", most, 0, sums);
    }

    // ---- promise 18

    private static void shape() {
        sentence(18, "- `stanza`: the stanza");
        for (int out : new int[] {-1, 3, 4, 23, 24, MIN, MAX}) {
            changesNothing(BoundaryTest::some, "shape(" + out + ")", BAD, x -> x.shape(out));
        }
        changesNothing(PoemPages::new, "shape(0) without lines", BAD, x -> x.shape(0));
        changesNothing(BoundaryTest::some, "shape(2)", 0, x -> x.shape(2));
        due("the 24th", poem(times(24, "z /")).shape(23), 0);
        due("the 25th", poem(times(24, "z /")).shape(24), BAD);

        sentence(18, "Returns the shape: 0 square, 1 wedge, 2 diamond, 3 glass; of several the first one; BAD.");
        due("a square", widths(1, 1, 1).shape(0), 0);
        due("a wedge", widths(1, 2).shape(0), 1);
        due("a diamond", widths(1, 2, 1).shape(0), 2);
        due("a glass", widths(2, 1, 1).shape(0), 3);
        due("all of them", widths(2, 3).shape(0), 0);
        due("a square and a wedge", widths(4, 6, 7).shape(0), 0);
        due("a square and a diamond", widths(1, 2, 2).shape(0), 0);
        due("a square and a glass", widths(1, 1).shape(0), 0);
        due("a square, a wedge and a diamond", widths(2, 5, 5).shape(0), 0);
        due("a square, a wedge and a glass", widths(3, 4).shape(0), 0);
        due("a square, a diamond and a glass", widths(2, 1).shape(0), 0);
        due("a wedge and a diamond", widths(1, 5, 4).shape(0), 1);
        due("a wedge and a glass", widths(1, 1, 2).shape(0), 1);
        due("a wedge, a diamond and a glass", widths(1, 2, 1, 3).shape(0), 1);
        due("a diamond and a glass", widths(3, 1, 1, 1).shape(0), 2);
        due("one row", widths(16).shape(0), 0);
        due("the text does not matter", text(widths(1, 2, 1), "?").shape(0), 2);
        due("nor if it names a shape", text(widths(1, 2, 1), "glass").shape(0), 2);
    }

    // ---- promise 19

    private static void bestWidth() {
        sentence(19, "- `what`: 0: the number of pages; 1: the number of rows that are not the first ones of their lines; "
            + "2: the number of rows that begin within a word");
        for (int out : new int[] {-1, 3, 4, MIN, MAX}) {
            changesNothing(BoundaryTest::some, "bestWidth(" + out + ")", BAD, x -> x.bestWidth(out));
        }
        String twenty = "abc ".repeat(20);
        PoemPages x = with(poem(twenty), 30, 4);
        due("four rows are enough for a page: 6 + 3 * 5 words", x.bestWidth(0), 23);
        due("two rows: 11 + 10 words", x.bestWidth(1), 43);
        due("no word is cut", x.bestWidth(2), 12);
        PoemPages cut = poem(">>>>> abcdefghijklmnop");
        cut.set(2, 6);
        due("16 columns behind the base 30", cut.bestWidth(2), 46);
        due("the first row alone", cut.bestWidth(1), 46);
        due("one page in any case", cut.bestWidth(0), 12);

        sentence(19, "Returns the width, 12 to 60, of several the least one; BAD; STATE if there are no lines.");
        for (int what = 0; what <= 2; what++) {
            int number = what;
            changesNothing(PoemPages::new, "bestWidth(" + what + ") without lines", STATE, y -> y.bestWidth(number));
            due("the least width", poem("abcdefghijkl").bestWidth(what), 12);
        }
        PoemPages removed = poem("a");
        removed.remove(0);
        due("when all lines are removed", removed.bestWidth(0), STATE);
        due("a word of 13", poem("abcdefghijklm").bestWidth(2), 13);
        due("a word of 16", poem("abcdefghijklmnop").bestWidth(2), 16);
        due("the greatest width", poem("a ".repeat(29) + "bc").bestWidth(1), 60);
        due("61 columns are not to be had, two rows: 17 + 14 words", poem("a ".repeat(30) + "a").bestWidth(1), 33);

        sentence(19, "If several of them apply to a call, the one that comes first in the description of the result is returned.");
        for (int out : new int[] {-1, 3, MIN, MAX}) {
            changesNothing(PoemPages::new, "bestWidth(" + out + ") without lines", BAD, y -> y.bestWidth(out));
        }

        sentence(19, "Finds the width with which a number would be least, if it was set now.");
        for (int width : new int[] {12, 13, 59, 60}) {
            PoemPages y = with(poem(twenty), width, 4);
            due("whatever the width is now", y.bestWidth(0), 23);
            y.set(3, 0);
            due("the run-over of now: 5 words a row", y.bestWidth(0), 19);
            y.set(1, 5);
            due("the height of now: 4 words a row", y.bestWidth(0), 15);
        }
        PoemPages kept = with(poem("a", "b /", "abcdefgh abcdefgh", "c"), 12, 6, 2, 4, 0);
        due("three places behind, no keep", kept.bestWidth(0), 12);
        kept.set(1, 5);
        due("two places behind, no keep", kept.count(3) * 100 + kept.bestWidth(0), 217);
        for (int what = 0; what <= 2; what++) {
            int number = what;
            int width = some().bestWidth(what);
            changesNothing(BoundaryTest::some, "bestWidth(" + what + ")", width, y -> y.bestWidth(number));
            PoemPages y = some();
            long least = Long.MAX_VALUE;
            int best = 0;
            for (int w = 12; w <= 60; w++) {
                y.set(0, w);
                int n = y.count(new int[] {3, 4, 5}[what]);
                if (n < least) {
                    least = n;
                    best = w;
                }
            }
            due("bestWidth(" + what + ") beside set()", width, best);
        }
    }

    // ---- promise 20

    private static void leastHeight() {
        sentence(20, "- `pages`: the number of pages, 1 to 99");
        for (int out : new int[] {-1, 0, 100, 101, MIN, MAX}) {
            changesNothing(BoundaryTest::some, "leastHeight(" + out + ")", BAD, x -> x.leastHeight(out));
            changesNothing(PoemPages::new, "leastHeight(" + out + ") without lines", BAD, x -> x.leastHeight(out));
        }
        changesNothing(PoemPages::new, "leastHeight(1) without lines", 4, x -> x.leastHeight(1));
        changesNothing(PoemPages::new, "leastHeight(99) without lines", 4, x -> x.leastHeight(99));
        changesNothing(BoundaryTest::some, "leastHeight(1)", 9, x -> x.leastHeight(1));
        changesNothing(BoundaryTest::some, "leastHeight(99)", 4, x -> x.leastHeight(99));
        PoemPages most = with(new PoemPages(), 12, 30, 6, 8, 0);
        text(most, ">" + "abc ".repeat(19) + "xyz");
        for (int k = 0; k < 19; k++) {
            most.insert(k);
        }
        add(most, ">" + "abc ".repeat(16));
        due("99 pages of four rows", most.leastHeight(99), 4);
        due("one less", most.leastHeight(98), 5);
        add(most, "a");
        due("100 pages of four rows", most.leastHeight(99), 5);
        due("80 pages of five rows", most.leastHeight(80), 5);
        due("79 pages of six rows", most.leastHeight(79), 6);

        sentence(20, "Returns the height; BAD; NONE if there is none from 4 to 30.");
        for (int n = 1; n <= 24; n++) {
            due(n + " rows on one page", poem(times(n, "a")).leastHeight(1), Math.max(n, 4));
        }
        PoemPages thirty = with(poem(times(15, of(2))), 12);
        due("30 rows on one page", thirty.leastHeight(1), 30);
        add(thirty, "a");
        changesNothing(() -> add(with(poem(times(15, of(2))), 12), "a"), "31 rows on one page", NONE, x -> x.leastHeight(1));
        due("31 rows on two pages, two by two", thirty.leastHeight(2), 16);

        sentence(20, "Finds the least height with which there would be at most some number of pages, if it was set now.");
        for (int height : new int[] {4, 29, 30}) {
            PoemPages y = paged(height, 0, "a /", "b", "b", "b", "b", "b");
            due("whatever the height is now", y.leastHeight(1), 7);
            due("2 and 4 rows, the stanza is parted", y.leastHeight(2), 4);
            y.set(4, 30);
            due("the keep of now", y.leastHeight(2), 4);
            y.set(0, 60);
            due("the width of now", y.leastHeight(1), 7);
        }
        PoemPages wide = with(poem(of(6)), 12);
        due("six rows", wide.leastHeight(1), 6);
        wide.set(0, 60);
        due("one row", wide.leastHeight(1), 4);
        PoemPages kept = paged(4, 0, "a", "a", "a", "a /", "b", "b", "b", "b", "b /", "c");
        due("parted: 4, 1 and 4, 1", kept.leastHeight(2), 6);
        kept.set(4, 5);
        due("kept whole: 4 and 5, 1", kept.leastHeight(2), 7);
        kept.set(4, 1);
        for (int pages = 1; pages <= 3; pages++) {
            int due = NONE;
            for (int h = 30; h >= 4; h--) {
                kept.set(1, h);
                due = kept.count(3) <= pages ? h : due;
            }
            due("leastHeight(" + pages + ") beside set()", kept.leastHeight(pages), due);
        }

        sentence(20, "NONE is not an error; it means that there is no such thing, and is returned only if no error applies.");
        due("leastHeight(0)", thirty.leastHeight(0), BAD);
        due("leastHeight(100)", thirty.leastHeight(100), BAD);
    }

    // ---- promise 21

    private static void count() {
        sentence(21, "- `what`: 0: lines; 1: stanzas; 2: rows; 3: pages; 4: rows that are not the first ones of their lines; "
            + "5: rows that begin within a word; 6: marked pages; 7: the number of the last line, by which lines are counted "
            + "(0 without lines); 8: the greatest width of a row (0 without rows); 9: states in the history; 10: bytes of the "
            + "text; 11 to 15: the settings in their order");
        for (int out : new int[] {-1, 16, 17, MIN, MAX, MIN + 10, MIN + 11, MAX - 11}) {
            changesNothing(BoundaryTest::some, "count(" + out + ")", BAD, x -> x.count(out));
            due("count(" + out + ") of a new object", new PoemPages().count(out), BAD);
        }
        int[] want = {4, 3, 7, 3, 3, 1, 1, 4, 13, 8, 7, 13, 5, 3, 4, 3};
        for (int what = 0; what < 16; what++) {
            int number = what;
            changesNothing(BoundaryTest::some, "count(" + what + ")", want[what], x -> x.count(number));
        }
        due("a last line that leans", poem("a", "~ b").count(7), 1);
        due("a last line that does not", poem("a /", "~ b").count(7), 2);
        due("the width counts from the column 0", poem(">>>>> a").count(8), 11);
        due("the greatest one is not the last one", poem("abc", "a").count(8), 3);

        sentence(21, "Returns the number; BAD.");
        PoemPages removed = some();
        for (int n = 3; n >= 0; n--) {
            due("remove(0)", removed.remove(0), n);
        }
        int[] empty = {0, 0, 0, 0, 0, 0, 0, 0, 0, 8, 7, 13, 5, 3, 4, 3};
        for (int what = 0; what < 16; what++) {
            due("count(" + what + ") when all lines are removed", removed.count(what), empty[what]);
        }
        PoemPages most = with(new PoemPages(), 60, 30, 6, 8, 30);
        text(most, ">" + "abc ".repeat(19) + "xy/");
        for (int k = 0; k < 24; k++) {
            most.insert(k);
        }
        due("lines", most.count(0), 24);
        due("stanzas", most.count(1), 24);
        due("the number of the last line", most.count(7), 24);
        due("bytes of the text", most.count(10), 80);
        int[] settings = {60, 30, 6, 8, 30};
        for (int s = 0; s < 5; s++) {
            due("count(" + (11 + s) + ")", most.count(11 + s), settings[s]);
        }
        most.set(0, 12);
        // the last word finds room behind the one ahead of it
        due("rows", most.count(2), 456);
        due("rows that are not the first ones", most.count(4), 432);
        PoemPages cuts = with(new PoemPages(), 12, 4, 6, 8, 0);
        text(cuts, ">" + "abcdefghijklm ".repeat(5));
        for (int k = 0; k < 24; k++) {
            cuts.insert(k);
        }
        // 6, 6 and 1 of each word, and nothing stands behind the 1 but another word's beginning in a new row
        due("rows that begin within a word", cuts.count(5), 240);
    }

    // ---- promise 22

    /** Asks one object after the other, since one is used for at most 512 calls. */
    private static final class Asked {
        private final Supplier<PoemPages> make;
        private PoemPages x = null;
        private int calls = 0;

        Asked(Supplier<PoemPages> make) {
            this.make = make;
        }

        PoemPages once() {
            if (x == null || calls == 100) {
                x = make.get();
                calls = 0;
            }
            calls++;
            return x;
        }
    }

    /** The hash of all answers, with numbers that do not overflow; its lowest 64 bits are the hash of the document. */
    private static long digestByAnswers(Supplier<PoemPages> make, String text) {
        Asked a = new Asked(make);
        List<Integer> all = new ArrayList<>();
        for (int i = 0; i <= 15; i++) {
            all.add(a.once().count(i));
        }
        int lines = all.get(0), stanzas = all.get(1), rows = all.get(2), pages = all.get(3), width = all.get(11);
        for (int k = 0; k < lines; k++) {
            for (int w = 0; w <= 9; w++) {
                all.add(a.once().line(k, w));
            }
        }
        for (int i = 0; i < rows; i++) {
            for (int w = 0; w <= 8; w++) {
                all.add(a.once().row(i, w));
            }
        }
        for (int p = 0; p < pages; p++) {
            for (int w = 0; w <= 4; w++) {
                all.add(a.once().page(p, w));
            }
        }
        for (int i = 0; i < rows; i++) {
            int page = a.once().row(i, 2), place = a.once().row(i, 3);
            for (int c = 0; c < width; c++) {
                all.add(a.once().at(page, place, c));
            }
        }
        for (int s = 0; s < stanzas; s++) {
            all.add(a.once().shape(s));
        }
        for (int i = 0; i < text.length(); i++) {
            all.add((int) text.charAt(i));
        }
        BigInteger hash = BigInteger.valueOf(805), factor = BigInteger.valueOf(31);
        for (int number : all) {
            hash = hash.multiply(factor).add(BigInteger.valueOf(number));
        }
        return hash.longValue();
    }

    private static void digest() {
        sentence(22, "It is 805 at first; for each of the following numbers, in this order, it becomes 31 times itself plus the "
            + "number (long arithmetic with overflow): count(0) to count(15); for each line line(k, 0) to line(k, 9); for each "
            + "row row(i, 0) to row(i, 8); for each page page(p, 0) to page(p, 4); the byte at each column of the place of each "
            + "row, in the order of rows; for each stanza shape(s); the bytes of the text.");
        due("of a new object", new PoemPages().digest(), digestByAnswers(PoemPages::new, ""));
        due("of a text alone", typed(80, 127).digest(), digestByAnswers(() -> typed(80, 127), "\177".repeat(80)));
        due("of the byte 0", typed(1, 0).digest(), digestByAnswers(() -> typed(1, 0), "\0"));
        due("of one line", poem("a").digest(), digestByAnswers(() -> poem("a"), "a"));
        due("of some lines", some().digest(), digestByAnswers(BoundaryTest::some, "k l m n"));
        String longest = ">" + "abc ".repeat(19) + "xy/";
        Supplier<PoemPages> most = () -> {
            PoemPages x = with(new PoemPages(), 12, 4, 6, 8, 0);
            text(x, longest);
            for (int k = 0; k < 24; k++) {
                x.insert(k);
            }
            return x;
        };
        due("of 456 rows on 120 pages", most.get().digest(), digestByAnswers(most, longest));
        Supplier<PoemPages> wide = () -> with(most.get(), 60, 30);
        due("of the greatest width and height", wide.get().digest(), digestByAnswers(wide, longest));

        sentence(22, "Returns the hash.");
        PoemPages x = some();
        due("twice the same", x.digest(), x.digest());
        changesNothing(BoundaryTest::some, "digest()", some().digest(), y -> y.digest());
    }

    // ---- the whole

    private static void wholeUse() {
        sentence(22, "An object is used for at most 512 calls after it has been made; what later calls answer is free.");
        PoemPages x = new PoemPages();
        String text = "~>" + "ab ".repeat(25) + "c/";
        int calls = 0;
        for (int i = 0; i < text.length(); i++) {
            due("type()", x.type(text.charAt(i)), ++calls);
        }
        for (int n = 1; n <= 24; n++) {
            due("insert(" + (n - 1) + ")", x.insert(n - 1), n);
            calls++;
        }
        while (calls < 510) {
            due("replace(" + calls % 24 + "), call " + calls, x.replace(calls % 24), 26);
            calls++;
        }
        due("undo(), call 511", x.undo(), 7);
        // 14 words behind the base 2, and 12 behind the column 6
        due("bestWidth(1), call 512", x.bestWidth(1), 43);

        sentence(22, "The constants: - `NONE = -1, BAD = -2, STATE = -3, FULL = -4`: No such thing; argument out of range; not "
            + "possible at present; limit exceeded. The constructor and the methods follow, a promise each: the signature, then "
            + "what it does.");
        due("BAD", PoemPages.BAD, -2);
        due("STATE", PoemPages.STATE, -3);
        due("FULL", PoemPages.FULL, -4);
        due("NONE", PoemPages.NONE, -1);
    }

    /** Every call that can be refused, some of them in several ways: none of them may leave anything behind. */
    private static void refuseAll(PoemPages x, int lines) {
        int bad = lines + 1;
        text(x, "a?");
        due("type(128)", x.type(128), BAD);
        due("insert(" + bad + ")", x.insert(bad), BAD);
        due("insert(0)", x.insert(0), -2001);
        due("insert(" + lines + ")", x.insert(lines), -2001);
        due("replace(" + lines + ")", x.replace(lines), BAD);
        due("replace(0)", x.replace(0), lines > 0 ? -2001 : BAD);
        due("remove(" + lines + ")", x.remove(lines), BAD);
        due("remove(-1)", x.remove(-1), BAD);
        due("move(0, 0, 0)", x.move(0, 0, 0), BAD);
        due("move(0, 1, " + lines + ")", x.move(0, 1, lines), BAD);
        due("move(0, " + bad + ", 0)", x.move(0, bad, 0), BAD);
        due("move(" + lines + ", 1, 0)", x.move(lines, 1, 0), BAD);
        due("toggle(" + lines + ", true)", x.toggle(lines, true), BAD);
        due("toggle(-1, false)", x.toggle(-1, false), BAD);
        due("line(0, 10)", x.line(0, 10), BAD);
        due("letter(0, -1)", x.letter(0, -1), BAD);
        for (int what = 0; what < 5; what++) {
            due("set(" + what + ", 61)", x.set(what, 61), BAD);
            due("set(" + what + ", -1)", x.set(what, -1), BAD);
        }
        due("set(5, 12)", x.set(5, 12), BAD);
        due("row(0, 9)", x.row(0, 9), BAD);
        due("at(0, 0, 60)", x.at(0, 0, 60), BAD);
        due("page(0, 5)", x.page(0, 5), BAD);
        due("distance(0)", x.distance(0), lines > 0 ? -2000 : BAD);
        due("shape(24)", x.shape(24), BAD);
        due("bestWidth(3)", x.bestWidth(3), BAD);
        due("leastHeight(100)", x.leastHeight(100), BAD);
        due("count(16)", x.count(16), BAD);
        if (lines == 24) {
            text(x, "a");
            due("insert(0)", x.insert(0), FULL);
        }
        if (lines == 0) {
            due("bestWidth(0)", x.bestWidth(0), STATE);
        }
        text(x, "k l");
    }

    private static void refusedCalls() {
        sentence(22, "BAD: an argument is out of range, or names something that does not exist. STATE: the call is not possible "
            + "at present, as described. FULL: a limit would be exceeded. Results of -2000 and less are errors, too.");
        refuseAll(new PoemPages(), 0);
        refuseAll(poem("b"), 1);
        refuseAll(some(), 4);
        refuseAll(full("b"), 24);
        sentence(22, "A call that returns an error changes nothing.");
        List<Supplier<PoemPages>> all = List.of(PoemPages::new, () -> poem("b"), BoundaryTest::some, () -> full("b"));
        for (Supplier<PoemPages> make : all) {
            PoemPages tried = make.get(), other = text(make.get(), "k l");
            refuseAll(tried, tried.count(0));
            due("digest()", tried.digest(), other.digest());
            for (int n = 0; n < 9; n++) {
                due("undo()", tried.undo(), other.undo());
                due("digest() behind it", tried.digest(), other.digest());
            }
            due("insert(0)", tried.insert(0), other.insert(0));
            due("digest() behind it", tried.digest(), other.digest());
        }
    }
}
