import java.io.IOException;
import java.nio.file.Files;
import java.nio.file.Path;
import java.util.ArrayList;
import java.util.List;
import java.util.TreeSet;
import java.util.regex.Matcher;
import java.util.regex.Pattern;

/** What README.md says of the class is so: the answers behind the calls of its example, and the names of the calls. */
public final class ReadmeTest {
    private static final Pattern TOLD = Pattern.compile("(?m)^x\\.(\\w+\\([\\d, ]*\\)); +// (-?\\d+):");
    private static final Pattern TYPED = Pattern.compile("\"(.*)\"\\.toCharArray\\(\\)");
    private static final Pattern FACE = Pattern.compile("(?m)^    public (?:int|long) (\\w+)\\(");
    private static int wrong = 0;

    public static void main(String[] args) throws IOException {
        String readme = Files.readString(Path.of("README.md"));
        example(readme);
        names(readme, Files.readString(Path.of("../shared/DOC.md")));
        System.out.println(wrong == 0 ? "README.md says what is so" : wrong + " things are not as README.md says");
        if (wrong != 0) {
            System.exit(1);
        }
    }

    private static void due(String what, Object got, Object want) {
        if (!got.equals(want)) {
            wrong++;
            System.out.println(what + ": " + got + ", due is " + want);
        }
    }

    private static void example(String readme) {
        PoemPages x = new PoemPages();
        Matcher typed = TYPED.matcher(readme);
        due("a typed text in the example", typed.find(), true);
        for (char c : typed.group(1).toCharArray()) {
            x.type(c);
        }
        List<String> told = new ArrayList<>();
        Matcher call = TOLD.matcher(readme);
        while (call.find()) {
            told.add(call.group(1) + " " + call.group(2));
        }
        List<String> answered = List.of(
            "insert(0) " + x.insert(0), "set(0, 20) " + x.set(0, 20), "count(2) " + x.count(2), "row(1, 4) " + x.row(1, 4),
            "at(0, 0, 2) " + x.at(0, 0, 2), "shape(0) " + x.shape(0), "bestWidth(1) " + x.bestWidth(1),
            "undo() " + x.undo(), "insert(2) " + x.insert(2));
        due("the example", told, answered);
    }

    private static void names(String readme, String document) {
        TreeSet<String> missing = new TreeSet<>();
        int calls = 0;
        Matcher face = FACE.matcher(document);
        while (face.find()) {
            calls++;
            if (!readme.contains("`" + face.group(1) + "`")) {
                missing.add(face.group(1));
            }
        }
        due("calls of the document's face", calls, 21);
        due("calls that README.md does not name", missing, new TreeSet<String>());
    }
}
