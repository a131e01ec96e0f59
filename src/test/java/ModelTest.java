import java.util.ArrayDeque;
import java.util.ArrayList;
import java.util.Arrays;
import java.util.List;
import java.util.regex.Matcher;
import java.util.regex.Pattern;

/**
 * Long runs of calls, always the same ones, on a PoemPages and on a second, plain writing of the document
 * (strings, lists and regular expressions, all rows made anew after each change); their answers must be equal.
 */
public final class ModelTest {
    private static final int RUNS = 240, CALLS = 512;
    private static int wrong = 0;
    private static long seed;

    public static void main(String[] args) {
        for (int run = 0; run < RUNS && wrong < 20; run++) {
            seed = 7919L * run + 1;
            run(run);
        }
        allShortTexts("");
        allSettings();
        System.out.println(wrong == 0 ? "the model agrees in " + RUNS + " runs" : wrong + " answers differ");
        if (wrong != 0) {
            System.exit(1);
        }
    }

    private static void run(int run) {
        PoemPages x = new PoemPages();
        Model m = new Model();
        StringBuilder told = new StringBuilder();
        for (int call = 0; call < CALLS; call++) {
            String[] name = {""};
            long[] answers = call(x, m, name, run, call);
            told.append(name[0]).append(" -> ").append(answers[0]).append('\n');
            if (answers[0] != answers[1]) {
                wrong++;
                System.out.println("run " + run + ", call " + call + ", due is " + answers[1] + ":\n" + told);
                return;
            }
        }
    }

    private static void equal(String what, long got, long due) {
        if (got != due) {
            wrong++;
            System.out.println(what + " answered " + got + ", due is " + due);
        }
    }

    /** All texts of up to five bytes, of the signs, a blank, a letter, and a byte that can stand nowhere. */
    private static void allShortTexts(String text) {
        PoemPages x = new PoemPages();
        Model m = new Model();
        text(x, m, text);
        equal("fault(false) of \"" + text + "\"", x.fault(false), m.fault(false));
        equal("fault(true) of \"" + text + "\"", x.fault(true), m.fault(true));
        equal("insert(0) of \"" + text + "\"", x.insert(0), m.insert(0));
        equal("digest() behind \"" + text + "\"", x.digest(), m.digest());
        for (int i = 0; text.length() < 5 && i < 6; i++) {
            allShortTexts(text + "~> a/?".charAt(i));
        }
    }

    /** Poems with each width, step and run-over, and then with each height and keep. */
    private static void allSettings() {
        String[][] poems = {
            {"a", "~ bcdefghijklmnop q r", ">> st uvw xyzabcdefghij /", "~>>>>> klmnopqrstuvwxyz abcdef", "~ gh /", "> ij", "k"},
            {"ab cd", "ef /", "gh /", "ij", "~> kl", "mn", "op /", "qrstuvwxyzabcdef ghijklmnopqrstuv wxyz", "ab", "cd /", "~ ef", "~ gh"}};
        for (String[] poem : poems) {
            for (int step = 0; step <= 6; step++) {
                for (int runOver = 0; runOver <= 8; runOver++) {
                    allOf(poem, new int[] {-1, 8, step, runOver, 4});
                }
            }
            for (int keep = 0; keep <= 30; keep++) {
                allOf(poem, new int[] {12, -1, 1, 2, keep});
            }
        }
    }

    /** Every value of the one setting that is -1. */
    private static void allOf(String[] poem, int[] settings) {
        PoemPages x = new PoemPages();
        Model m = new Model();
        for (int k = 0; k < poem.length; k++) {
            text(x, m, poem[k]);
            equal("insert", x.insert(k), m.insert(k));
        }
        for (int what = 0; what < settings.length; what++) {
            int from = settings[what] < 0 ? Model.LEAST[what] : settings[what];
            int to = settings[what] < 0 ? Model.GREATEST[what] : settings[what];
            if (from == to) {
                equal("set", x.set(what, from), m.set(what, from));
            }
        }
        for (int what = 0; what < settings.length; what++) {
            for (int value = Model.LEAST[what]; settings[what] < 0 && value <= Model.GREATEST[what]; value++) {
                equal("set", x.set(what, value), m.set(what, value));
                equal("digest() with " + value + " in " + Arrays.toString(settings), x.digest(), m.digest());
            }
        }
    }

    private static int below(int n) {
        seed = seed * 6364136223846793005L + 1442695040888963407L;
        return (int) ((seed >>> 33) % n);
    }

    /** Mostly a number of the range, now and then one beside it or far from it. */
    private static int near(int from, int to) {
        int chance = below(40);
        if (chance == 0) {
            return from - 1;
        }
        if (chance == 1) {
            return to + 1;
        }
        if (chance == 2) {
            int[] far = {Integer.MIN_VALUE, Integer.MAX_VALUE, -1, -2000, 1000, Integer.MIN_VALUE + 1};
            return far[below(far.length)];
        }
        return from > to ? from : from + below(to - from + 1);
    }

    private static long[] call(PoemPages x, Model m, String[] name, int run, int call) {
        int lines = m.lines.size();
        boolean growing = call < 40 + 10 * (run % 20) && lines < 6 + run % 25;
        int kind = growing && below(2) == 0 ? 3 : below(26);
        switch (kind) {
            case 0: { int a = near(0, 127); name[0] = "type(" + a + ")"; return two(x.type(a), m.type(a)); }
            case 1: { boolean b = below(2) == 0; name[0] = "fault(" + b + ")"; return two(x.fault(b), m.fault(b)); }
            case 2: { String t = below(3) == 0 ? shapeText() : lineText(run); name[0] = "text \"" + t + "\""; return text(x, m, t); }
            case 3: {
                if (below(4) != 0) {
                    text(x, m, lineText(run));
                }
                int a = near(0, lines);
                name[0] = "text \"" + m.text + "\" insert(" + a + ")";
                return two(x.insert(a), m.insert(a));
            }
            case 4: { int a = near(0, lines - 1); name[0] = "replace(" + a + ")"; return two(x.replace(a), m.replace(a)); }
            case 5: { int a = near(0, lines - 1); name[0] = "remove(" + a + ")"; return below(3) == 0 ? two(x.remove(a), m.remove(a)) : two(0, 0); }
            case 6: case 7: {
                int a = near(0, lines - 1);
                int n = near(1, Math.max(1, lines - Math.max(0, Math.min(a, lines - 1))));
                int to = near(0, Math.max(0, lines - Math.max(1, Math.min(n, lines))));
                name[0] = "move(" + a + ", " + n + ", " + to + ")";
                return two(x.move(a, n, to), m.move(a, n, to));
            }
            case 8: case 9: {
                int a = near(0, lines - 1);
                boolean b = below(2) == 0;
                name[0] = "toggle(" + a + ", " + b + ")";
                return two(x.toggle(a, b), m.toggle(a, b));
            }
            case 10: { int a = near(0, lines - 1), w = near(0, 9); name[0] = "line(" + a + ", " + w + ")"; return two(x.line(a, w), m.line(a, w)); }
            case 11: { int a = near(0, lines - 1), i = near(0, 70); name[0] = "letter(" + a + ", " + i + ")"; return two(x.letter(a, i), m.letter(a, i)); }
            case 12: case 13: {
                int w = near(0, 4);
                int v = w >= 0 && w < 5 ? near(Model.LEAST[w], Model.GREATEST[w]) : 12;
                name[0] = "set(" + w + ", " + v + ")";
                return two(x.set(w, v), m.set(w, v));
            }
            case 14: { name[0] = "undo()"; return below(2) == 0 ? two(x.undo(), m.undo()) : two(0, 0); }
            case 15: { int r = near(0, m.rows().size()), w = near(0, 8); name[0] = "row(" + r + ", " + w + ")"; return two(x.row(r, w), m.row(r, w)); }
            case 16: case 17: {
                int p = near(0, m.pages().size() - 1), q = near(0, m.set[1] - 1), c = near(0, m.set[0] - 1);
                name[0] = "at(" + p + ", " + q + ", " + c + ")";
                return two(x.at(p, q, c), m.at(p, q, c));
            }
            case 18: { int p = near(0, m.pages().size() - 1), w = near(0, 4); name[0] = "page(" + p + ", " + w + ")"; return two(x.page(p, w), m.page(p, w)); }
            case 19: {
                if (below(3) != 0) {
                    text(x, m, shapeText());
                }
                int s = near(0, m.stanzas() - 1);
                name[0] = "text \"" + m.text + "\" distance(" + s + ")";
                return two(x.distance(s), m.distance(s));
            }
            case 20: { int s = near(0, m.stanzas() - 1); name[0] = "shape(" + s + ")"; return two(x.shape(s), m.shape(s)); }
            case 21: { int w = near(0, 2); name[0] = "bestWidth(" + w + ")"; return below(4) == 0 ? two(x.bestWidth(w), m.bestWidth(w)) : two(0, 0); }
            case 22: { int p = below(2) == 0 ? near(1, 99) : near(1, 9); name[0] = "leastHeight(" + p + ")"; return below(4) == 0 ? two(x.leastHeight(p), m.leastHeight(p)) : two(0, 0); }
            case 23: { int w = near(0, 15); name[0] = "count(" + w + ")"; return two(x.count(w), m.count(w)); }
            default: { name[0] = "digest()"; return two(x.digest(), m.digest()); }
        }
    }

    private static long[] two(long a, long b) {
        return new long[] {a, b};
    }

    private static long[] text(PoemPages x, Model m, String text) {
        long got = x.clear(), due = m.clear();
        for (int i = 0; i < text.length(); i++) {
            got = 31 * got + x.type(text.charAt(i));
            due = 31 * due + m.type(text.charAt(i));
        }
        return two(got, due);
    }

    private static String blanks() {
        return below(4) == 0 ? " ".repeat(below(3)) : "";
    }

    private static String lineText(int run) {
        StringBuilder t = new StringBuilder(blanks());
        if (below(4) == 0) {
            t.append('~').append(blanks());
        }
        int steps = below(3) == 0 ? below(6) : 0;
        if (below(60) == 0) {
            steps = 6 + below(2);
        }
        for (int s = 0; s < steps; s++) {
            t.append('>').append(blanks());
        }
        int words = below(50) == 0 ? 0 : 1 + below(1 + run % 20);
        int longest = 1 + below(16);
        for (int w = 0; w < words; w++) {
            if (w > 0) {
                t.append(' ').append(blanks());
            }
            int letters = below(150) == 0 ? 17 : run % 3 == 0 ? 1 + below(longest) : longest;
            for (int i = 0; i < letters; i++) {
                t.append((char) ('a' + below(26)));
            }
        }
        t.append(blanks());
        if (below(4) == 0) {
            t.append('/').append(blanks());
        }
        if (below(20) == 0) {
            String odd = "~>/ a9A`{\n\u0000\u007f";
            t.insert(below(t.length() + 1), odd.charAt(below(odd.length())));
        }
        return t.toString();
    }

    private static String shapeText() {
        String[] names = {"square", "wedge", "diamond", "glass", "square", "wedge", "diamond", "glass", "", "squar", "glasss", "edge"};
        String t = blanks() + names[below(names.length)] + blanks();
        if (below(10) == 0) {
            String odd = "~>/ aG1";
            t += odd.charAt(below(odd.length()));
        }
        return t;
    }

    private static final class Model {
        static final int[] LEAST = {12, 4, 0, 0, 0}, GREATEST = {60, 30, 6, 8, 30};
        static final Pattern LINE = Pattern.compile(" *(~ *)?(> *){0,5}[a-z]{1,16}( +[a-z]{1,16})* *(/ *)?");
        static final List<String> SHAPES = List.of("square", "wedge", "diamond", "glass");

        String text = "";
        List<L> lines = new ArrayList<>();
        int[] set = {30, 12, 2, 4, 6};
        ArrayDeque<Object[]> history = new ArrayDeque<>();
        List<R> paged = null;

        record L(String words, int steps, boolean half, boolean last) { }

        static final class R {
            int line, part, page, place, column, shown, stanza;
            String letters = "";
            boolean cut;
            boolean opens;
            int end() { return column + letters.length(); }
        }

        int type(int b) {
            if (b < 0 || b > 127) return -2;
            if (text.length() == 80) return -4;
            text += (char) b;
            return text.length();
        }

        int clear() {
            int n = text.length();
            text = "";
            return n;
        }

        int fault(boolean shape) {
            return shape ? shapeFault() : lineFault();
        }

        /** A byte can stand at its place if the text up to it can still become a line. */
        int lineFault() {
            for (int p = 1; p <= text.length(); p++) {
                Matcher m = LINE.matcher(text.substring(0, p));
                if (!m.matches() && !m.hitEnd()) return p - 1;
            }
            return LINE.matcher(text).matches() ? -1 : text.length();
        }

        int shapeFault() {
            Matcher m = Pattern.compile("( *)([a-z]*)( *)(?s:.*)").matcher(text);
            if (!m.matches()) throw new IllegalStateException();
            if (!SHAPES.contains(m.group(2))) return m.end(1);
            return m.end(3) == text.length() ? -1 : m.end(3);
        }

        L read() {
            String words = text.replaceAll("[^a-z]+", " ").trim();
            return new L(words, text.replaceAll("[^>]", "").length(), text.contains("~"), text.contains("/"));
        }

        void change() {
            paged = null;
            history.addLast(new Object[] {new ArrayList<>(lines), set.clone()});
            if (history.size() > 8) history.removeFirst();
        }

        int insert(int k) {
            if (k < 0 || k > lines.size()) return -2;
            if (lineFault() >= 0) return -2000 - lineFault();
            if (lines.size() == 24) return -4;
            change();
            lines.add(k, read());
            return lines.size();
        }

        boolean no(int k) { return k < 0 || k >= lines.size(); }

        int replace(int k) {
            if (no(k)) return -2;
            if (lineFault() >= 0) return -2000 - lineFault();
            change();
            return lines.set(k, read()).words.split(" ").length;
        }

        int remove(int k) {
            if (no(k)) return -2;
            change();
            lines.remove(k);
            return lines.size();
        }

        int move(int from, int n, int to) {
            if (n < 1 || no(from) || (long) from + n > lines.size() || to < 0 || to > lines.size() - n) return -2;
            change();
            List<L> moved = new ArrayList<>(lines.subList(from, from + n));
            lines.subList(from, from + n).clear();
            lines.addAll(to, moved);
            return stanzas();
        }

        int toggle(int k, boolean half) {
            if (no(k)) return -2;
            change();
            L l = lines.get(k);
            lines.set(k, half ? new L(l.words, l.steps, !l.half, l.last) : new L(l.words, l.steps, l.half, !l.last));
            return (half ? !l.half : !l.last) ? 1 : 0;
        }

        boolean opens(int k) { return k == 0 || lines.get(k - 1).last; }

        boolean leans(int k) { return lines.get(k).half && !opens(k); }

        int number(int k) {
            int n = 0;
            for (int i = 0; i <= k; i++) if (!leans(i)) n++;
            return n;
        }

        int stanza(int k) {
            int s = -1;
            for (int i = 0; i <= k; i++) if (opens(i)) s++;
            return s;
        }

        int stanzas() { return lines.isEmpty() ? 0 : stanza(lines.size() - 1) + 1; }

        List<R> unpaged() {
            List<R> rows = new ArrayList<>();
            for (int k = 0; k < lines.size(); k++) {
                L l = lines.get(k);
                List<String> words = new ArrayList<>(List.of(l.words.split(" ")));
                int part = 0;
                boolean cut = false;
                while (!words.isEmpty()) {
                    R r = new R();
                    r.line = k;
                    r.stanza = stanza(k);
                    r.part = part;
                    r.cut = cut;
                    r.opens = part == 0 && opens(k);
                    r.column = l.steps * set[2];
                    if (part == 0 && leans(k)) r.column = rows.get(rows.size() - 1).end() + 1;
                    if (part > 0) r.column += set[3];
                    if (r.column > set[0] - 6) r.column = set[0] - 6;
                    if (part == 0 && !leans(k) && number(k) % 5 == 0) r.shown = number(k);
                    String all = words.remove(0);
                    while (!words.isEmpty() && r.column + (all + " " + words.get(0)).length() <= set[0]) all += " " + words.remove(0);
                    cut = r.column + all.length() > set[0];
                    if (cut) {
                        words.add(0, all.substring(set[0] - r.column));
                        all = all.substring(0, set[0] - r.column);
                    }
                    r.letters = all;
                    rows.add(r);
                    part++;
                }
            }
            return rows;
        }

        int rowsOf(List<R> rows, int line) {
            int n = 0;
            for (R r : rows) if (r.line == line) n++;
            return n;
        }

        /** The rows with their pages and places. */
        List<R> rows() {
            if (paged == null) {
                paged = putOnPages(unpaged());
            }
            return paged;
        }

        List<R> putOnPages(List<R> rows) {
            int page = 0, place = 0;
            boolean empty = true;
            for (R r : rows) {
                int height = set[1], ofLine = rowsOf(rows, r.line), ofStanza = 0;
                for (R o : rows) if (o.stanza == r.stanza) ofStanza++;
                boolean fresh = false;
                if (r.opens && !empty) {
                    int behind = height - place - 1;
                    fresh = behind < ofLine || (ofStanza <= set[4] && ofStanza <= height && behind < ofStanza);
                    if (!fresh) place++;
                } else if (r.part == 0 && !empty && height - place < ofLine) {
                    fresh = true;
                }
                if (fresh || place == height) {
                    page++;
                    place = 0;
                }
                r.page = page;
                r.place = place++;
                empty = false;
            }
            return rows;
        }

        List<List<R>> pages() {
            List<List<R>> pages = new ArrayList<>();
            for (R r : rows()) {
                if (r.page == pages.size()) pages.add(new ArrayList<>());
                pages.get(r.page).add(r);
            }
            return pages;
        }

        int line(int k, int what) {
            if (no(k) || what < 0 || what > 9) return -2;
            L l = lines.get(k);
            List<R> rows = rows();
            int first = 0;
            while (rows.get(first).line != k) first++;
            int[] all = {l.words.replace(" ", "").length(), l.words.split(" ").length, l.steps, l.half ? 1 : 0,
                leans(k) ? 1 : 0, l.last ? 1 : 0, number(k), first, rowsOf(rows, k), stanza(k)};
            return all[what];
        }

        int letter(int k, int i) {
            if (no(k) || i < 0) return -2;
            return i < lines.get(k).words.length() ? lines.get(k).words.charAt(i) : -1;
        }

        int set(int what, int value) {
            if (what < 0 || what > 4 || value < LEAST[what] || value > GREATEST[what]) return -2;
            change();
            int before = set[what];
            set[what] = value;
            return before;
        }

        @SuppressWarnings("unchecked")
        int undo() {
            if (history.isEmpty()) return -3;
            Object[] state = history.removeLast();
            lines = (List<L>) state[0];
            set = (int[]) state[1];
            paged = null;
            return history.size();
        }

        int row(int i, int what) {
            List<R> rows = rows();
            if (i < 0 || what < 0 || what > 8) return -2;
            if (i >= rows.size()) return -1;
            R r = rows.get(i);
            return new int[] {r.line, r.part, r.page, r.place, r.column, r.letters.length(), r.shown, r.cut ? 1 : 0, r.end()}[what];
        }

        int at(int page, int place, int column) {
            List<R> rows = rows();
            int pages = rows.isEmpty() ? 0 : rows.get(rows.size() - 1).page + 1;
            if (page < 0 || page >= pages || place < 0 || place >= set[1] || column < 0 || column >= set[0]) return -2;
            for (R r : rows) {
                if (r.page == page && r.place == place) return (" ".repeat(r.column) + r.letters + " ".repeat(60)).charAt(column);
            }
            return 32;
        }

        int page(int p, int what) {
            List<List<R>> pages = pages();
            if (p < 0 || p >= pages.size() || what < 0 || what > 4) return -2;
            List<R> page = pages.get(p);
            int first = 0, begun = 0;
            for (int i = 0; i < p; i++) first += pages.get(i).size();
            for (R r : page) if (r.part == 0) begun++;
            boolean marked = p < pages.size() - 1 && pages.get(p + 1).get(0).opens;
            return new int[] {page.size(), page.get(page.size() - 1).place + 1, marked ? 1 : 0, first, begun}[what];
        }

        int distance(int s) {
            if (s < 0 || s >= stanzas()) return -2;
            if (shapeFault() >= 0) return -2000 - shapeFault();
            return distance(s, text.trim());
        }

        int distance(int s, String shape) {
            List<Integer> widths = new ArrayList<>();
            for (R r : rows()) if (r.stanza == s) widths.add(r.end());
            int n = widths.size(), m = 0, sum = 0;
            for (int w : widths) m = Math.max(m, w);
            for (int i = 0; i < n; i++) {
                int aim = switch (shape) {
                    case "square" -> m;
                    case "wedge" -> m * (i + 1) / n;
                    case "diamond" -> Math.min(m, 2 * m * Math.min(i + 1, n - i) / (n + 1));
                    default -> m * Math.max(i + 1, n - i) / n;
                };
                sum += Math.abs(widths.get(i) - aim);
            }
            return sum;
        }

        int shape(int s) {
            if (s < 0 || s >= stanzas()) return -2;
            int best = 0;
            for (int k = 1; k < 4; k++) if (distance(s, SHAPES.get(k)) < distance(s, SHAPES.get(best))) best = k;
            return best;
        }

        int bestWidth(int what) {
            if (what < 0 || what > 2) return -2;
            if (lines.isEmpty()) return -3;
            int width = set[0], best = 0, least = Integer.MAX_VALUE;
            for (set[0] = 12; set[0] <= 60; set[0]++) {
                paged = null;
                int n = count(3 + what);
                if (n < least) {
                    least = n;
                    best = set[0];
                }
            }
            set[0] = width;
            paged = null;
            return best;
        }

        int leastHeight(int pages) {
            if (pages < 1 || pages > 99) return -2;
            int height = set[1], best = -1;
            for (set[1] = 30; set[1] >= 4; set[1]--) {
                paged = null;
                if (pages().size() <= pages) best = set[1];
            }
            set[1] = height;
            paged = null;
            return best;
        }

        int count(int what) {
            if (what < 0 || what > 15) return -2;
            if (what == 0) return lines.size();
            if (what == 1) return stanzas();
            if (what == 7) return lines.isEmpty() ? 0 : number(lines.size() - 1);
            if (what == 9) return history.size();
            if (what == 10) return text.length();
            if (what >= 11) return set[what - 11];
            if (what == 3) return pages().size();
            if (what == 6) {
                int marked = 0;
                List<List<R>> pages = pages();
                for (int p = 1; p < pages.size(); p++) if (pages.get(p).get(0).opens) marked++;
                return marked;
            }
            int rows = 0, later = 0, cut = 0, width = 0;
            for (R r : rows()) {
                rows++;
                if (r.part > 0) later++;
                if (r.cut) cut++;
                width = Math.max(width, r.end());
            }
            return what == 2 ? rows : what == 4 ? later : what == 5 ? cut : width;
        }

        long digest() {
            long h = 805;
            for (int i = 0; i < 16; i++) h = 31 * h + count(i);
            for (int k = 0; k < lines.size(); k++) for (int w = 0; w < 10; w++) h = 31 * h + line(k, w);
            List<R> rows = rows();
            for (R r : rows) {
                int[] all = {r.line, r.part, r.page, r.place, r.column, r.letters.length(), r.shown, r.cut ? 1 : 0, r.end()};
                for (int a : all) h = 31 * h + a;
            }
            int pages = pages().size();
            for (int p = 0; p < pages; p++) for (int w = 0; w < 5; w++) h = 31 * h + page(p, w);
            for (R r : rows) {
                String all = " ".repeat(r.column) + r.letters + " ".repeat(60);
                for (int c = 0; c < set[0]; c++) h = 31 * h + all.charAt(c);
            }
            for (int s = 0; s < stanzas(); s++) h = 31 * h + shape(s);
            for (int i = 0; i < text.length(); i++) h = 31 * h + text.charAt(i);
            return h;
        }
    }
}
