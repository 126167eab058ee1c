import java.io.File;
import java.lang.reflect.Field;
import java.lang.reflect.Method;
import java.lang.reflect.Modifier;
import java.nio.file.Files;
import java.nio.file.Path;
import java.util.ArrayList;
import java.util.Iterator;
import java.util.List;

/** README.md's example answers as it says there, and the page names every call, constant and test. */
public final class ReadmeTest extends Checks {
    private static final String MADE = "CursorKeep keep = new CursorKeep();";

    public static void main(String[] args) throws Exception {
        String page = Files.readString(Path.of("README.md"));
        example(page);
        namesTheFace(page);
        namesTheTests(page);
        end("ReadmeTest");
    }

    /** The lines of the page's one example in Java, in their order. */
    private static Iterator<String> exampleOf(String page) {
        List<String> lines = new ArrayList<>();
        boolean inside = false;
        for (String line : page.split("\n")) {
            if (line.startsWith("```")) {
                inside = line.equals("```java");
            } else if (inside) {
                lines.add(line);
            }
        }
        return lines.iterator();
    }

    private static void example(String page) {
        Iterator<String> lines = exampleOf(page);
        due("the first line", lines.hasNext() ? lines.next() : "", MADE);
        CursorKeep keep = new CursorKeep();
        says(lines, "keep.type(0, 0, 'a');", keep.type(0, 0, 'a'));
        says(lines, "keep.type(0, 0, ' ');", keep.type(0, 0, ' '));
        says(lines, "keep.type(0, 0, ' ');", keep.type(0, 0, ' '));
        says(lines, "keep.ask(0, CursorKeep.ENDS, 0);", keep.ask(0, CursorKeep.ENDS, 0));
        says(lines, "keep.save(0, 0, 0);", keep.save(0, 0, 0));
        says(lines, "keep.write();", keep.write());
        says(lines, "keep.moveTo(1, 0, 1);", keep.moveTo(1, 0, 1));
        says(lines, "keep.spared(0);", keep.spared(0));
        says(lines, "keep.come(0);", keep.come(0));
        says(lines, "keep.version(0);", keep.version(0));
        says(lines, "keep.undo(0);", keep.undo(0));
        says(lines, "keep.undo(0);", keep.undo(0));
        says(lines, "keep.redo(0);", keep.redo(0));
        says(lines, "keep.length(0);", keep.length(0));
        says(lines, "keep.write();", keep.write());
        says(lines, "keep.savedLetter(0, 0);", keep.savedLetter(0, 0));
        due("more lines in the example", lines.hasNext(), false);
    }

    /** A line is a call, and behind // its answer, up to a colon if more is told. */
    private static void says(Iterator<String> lines, String call, Object answer) {
        String[] parts = (lines.hasNext() ? lines.next() : "").split("//", 2);
        due("the next call", parts[0].trim(), call);
        due("what is said of " + call, parts.length < 2 ? "" : parts[1].split(":")[0].trim(), String.valueOf(answer));
    }

    private static void namesTheFace(String page) {
        for (Method method : CursorKeep.class.getDeclaredMethods()) {
            if (Modifier.isPublic(method.getModifiers())) {
                names(page, "`" + method.getName() + "(");
            }
        }
        for (Field field : CursorKeep.class.getDeclaredFields()) {
            if (Modifier.isPublic(field.getModifiers())) {
                names(page, "`" + field.getName() + "`");
            }
        }
    }

    private static void namesTheTests(String page) {
        names(page, ".ci/run");
        String[] files = new File("src/test/java").list();
        due("there are tests", files != null && files.length > 0, true);
        for (String file : files == null ? new String[0] : files) {
            if (file.endsWith("Test.java")) {
                names(page, "`" + file.replace(".java", "") + "`");
            }
        }
    }

    private static void names(String page, String name) {
        due("README.md names " + name, page.contains(name), true);
    }
}
