import java.io.IOException;
import java.lang.reflect.Field;
import java.lang.reflect.Method;
import java.lang.reflect.Modifier;
import java.nio.file.Files;
import java.nio.file.Path;
import java.util.ArrayList;
import java.util.Arrays;
import java.util.List;
import java.util.TreeSet;
import java.util.regex.Matcher;
import java.util.regex.Pattern;

/** The face of the class is that of the document, and its source keeps to what ../shared/LANGUAGE.md leaves. */
public final class RulesTest {
    private static final String[] FACE = {
        "int type(int)", "int clear()", "int fault(boolean)", "int insert(int)", "int replace(int)", "int remove(int)",
        "int move(int,int,int)", "int toggle(int,boolean)", "int line(int,int)", "int letter(int,int)", "int set(int,int)",
        "int undo()", "int row(int,int)", "int at(int,int,int)", "int page(int,int)", "int distance(int)", "int shape(int)",
        "int bestWidth(int)", "int leastHeight(int)", "int count(int)", "long digest()"};
    private static final String[] NOT_THERE = {
        "\\b(throw|throws|try|catch|synchronized|assert|import|package|volatile|native|transient|strictfp)\\b",
        "->", "::", "\\bSystem\\.(?!arraycopy)", "\\bObject\\b", "\\bRandom\\b", "\\bThread\\b", "\\w+Exact\\b",
        "\\b(equals|hashCode|toString)\\s*\\(\\s*\\)\\s*\\{", "\"\\s*\\+|\\+\\s*\"", "[^\\x00-\\x7f]"};
    private static final List<Class<?>> STATIC_TYPES = List.of(int.class, long.class, boolean.class, char.class, String.class,
        int[].class, long[].class, char[].class, byte[].class);
    private static final int MOST_CLASSES = 12, MOST_FIELDS = 20, MOST_PARAMETERS = 7;
    private static int wrong = 0;

    public static void main(String[] args) throws IOException {
        face();
        sizes();
        source();
        System.out.println(wrong == 0 ? "the rules are kept" : wrong + " rules are broken");
        if (wrong != 0) {
            System.exit(1);
        }
    }

    private static void broken(String what) {
        wrong++;
        System.out.println(what);
    }

    private static void face() {
        TreeSet<String> due = new TreeSet<>(Arrays.asList(FACE));
        TreeSet<String> open = new TreeSet<>();
        TreeSet<String> names = new TreeSet<>();
        for (Method m : PoemPages.class.getDeclaredMethods()) {
            if (Modifier.isPublic(m.getModifiers())) {
                String types = Arrays.toString(m.getParameterTypes()).replaceAll("[\\[\\] ]", "");
                open.add(m.getReturnType() + " " + m.getName() + "(" + types + ")");
                names.add(m.getName());
            }
        }
        if (!open.equals(due)) {
            broken("the public methods are " + open);
        }
        for (Method m : PoemPages.class.getDeclaredMethods()) {
            if (!Modifier.isPublic(m.getModifiers()) && (!Modifier.isPrivate(m.getModifiers()) || names.contains(m.getName()))) {
                broken("the method " + m.getName() + " is not private, or bears the name of a public one");
            }
        }
        TreeSet<String> constants = new TreeSet<>();
        for (Field f : PoemPages.class.getDeclaredFields()) {
            if (Modifier.isPublic(f.getModifiers())) {
                constants.add(f.getName());
            } else if (!Modifier.isPrivate(f.getModifiers())) {
                broken("the field " + f.getName() + " is not private");
            }
            if (Modifier.isStatic(f.getModifiers()) && !Modifier.isFinal(f.getModifiers())) {
                broken("the static field " + f.getName() + " is not final");
            }
        }
        if (!constants.equals(new TreeSet<>(Arrays.asList("NONE", "BAD", "STATE", "FULL")))) {
            broken("the public constants are " + constants);
        }
        for (Class<?> inside : PoemPages.class.getDeclaredClasses()) {
            if (!Modifier.isStatic(inside.getModifiers()) || Modifier.isPublic(inside.getModifiers())) {
                broken("the class " + inside + " is not static, or is public");
            }
            for (Method m : inside.getDeclaredMethods()) {
                if (names.contains(m.getName())) {
                    broken("a method of " + inside + " bears the public name " + m.getName());
                }
            }
        }
        if (PoemPages.class.getConstructors().length != 1 || PoemPages.class.getDeclaredConstructors().length != 1) {
            broken("there must be one constructor, a public one");
        }
    }

    private static void sizes() {
        List<Class<?>> all = new ArrayList<>(Arrays.asList(PoemPages.class.getDeclaredClasses()));
        all.add(PoemPages.class);
        if (all.size() > MOST_CLASSES) {
            broken("there are " + all.size() + " classes");
        }
        for (Class<?> each : all) {
            if (each != PoemPages.class && each.getDeclaredClasses().length > 0) {
                broken("there are classes inside " + each);
            }
            int fields = 0;
            for (Field f : each.getDeclaredFields()) {
                if (!Modifier.isStatic(f.getModifiers())) {
                    fields++;
                } else if (!Modifier.isFinal(f.getModifiers()) || !STATIC_TYPES.contains(f.getType())) {
                    broken("the static field " + f + " is not final, or of another type");
                }
            }
            if (fields > MOST_FIELDS) {
                broken(each + " has " + fields + " fields");
            }
            for (Method m : each.getDeclaredMethods()) {
                if (m.getParameterCount() > MOST_PARAMETERS) {
                    broken(m + " has too many parameters");
                }
            }
        }
    }

    private static void source() throws IOException {
        String source = Files.readString(Path.of("src/main/java/PoemPages.java"));
        String code = source.replaceAll("(?s)/\\*.*?\\*/", "").replaceAll("//[^\n]*", "");
        for (String pattern : NOT_THERE) {
            Matcher m = Pattern.compile(pattern).matcher(code);
            if (m.find()) {
                broken("the source has " + m.group());
            }
        }
        Matcher method = Pattern.compile("(?m)^( +)[\\w\\[\\] ]+\\([\\w\\[\\], ]*\\) \\{\n((?:\\1 .*\n|\n)*)\\1\\}").matcher(code);
        while (method.find()) {
            if (method.group(2).split("\n").length > 60) {
                broken("a method is too long: " + method.group().trim().split("\n")[0]);
            }
        }
    }
}
