import java.lang.reflect.Constructor;
import java.lang.reflect.Field;
import java.lang.reflect.Method;
import java.lang.reflect.Modifier;
import java.nio.file.Files;
import java.nio.file.Path;
import java.util.Arrays;
import java.util.List;
import java.util.Set;
import java.util.TreeSet;

/** The class has the document's face and nothing more, and keeps out what LANGUAGE.md rules out by name. */
public final class FaceTest {
    private static int wrong = 0;

    private static final String[] METHODS = {
        "int type(int,int,char) throws IOOBE,IAE,ISE", "int erase(int,int) throws IOOBE,ISE",
        "int moveTo(int,int,int) throws IOOBE", "int undo(int) throws IOOBE,ISE", "int redo(int) throws IOOBE,ISE",
        "int place(int,int) throws IOOBE", "int length(int) throws IOOBE", "char letter(int,int) throws IOOBE",
        "char letterAnew(int,int) throws IOOBE", "int version(int) throws IOOBE",
        "int ask(int,int,int) throws IOOBE,IAE,ISE", "int come(int) throws IOOBE,ISE", "int drop(int) throws IOOBE,ISE",
        "int state(int) throws IOOBE", "int spared(int) throws IOOBE", "boolean lock(int,int) throws IOOBE,ISE",
        "int save(int,int,int) throws IOOBE,IAE,ISE", "int write()", "int queued()",
        "int savedVersion(int) throws IOOBE", "int savedLength(int) throws IOOBE",
        "char savedLetter(int,int) throws IOOBE",
    };

    private static final String[] CONSTANTS = {
        "NONE=-1", "SPACES=0", "ENDS=1", "CAPITALS=2", "WRAP=3", "WAITING=0", "DONE=1", "DROPPED=2",
    };

    private static final int MOST_CLASSES = 12, MOST_FIELDS = 20, MOST_PARAMETERS = 7, MOST_LINES = 60;
    private static final Set<String> OF_EVERY_OBJECT = Set.of("equals", "hashCode", "toString");

    private static final String[] RULED_OUT = {
        "\\bfinally\\b", "\\bsynchronized\\b", "\\bassert\\b", "->", "::", "\\bException\\b", "\\bThrowable\\b", "Error\\b",
        "\\bNullPointer", "\\bArrayIndex", "\\bStringIndex", "\\bClassCast", "\\bNegativeArray", "\\bArrayStore",
        "Exact\\b", "\\bSystem\\.(?!arraycopy\\b)", "\\bThread\\b", "\\bRandom\\b", "\\bpackage\\b", "\\bhashCode\\b",
        "\\btry\\b", "\\bfloat\\b", "\\bdouble\\b", "\"\" *\\+", "\\+ *\"\"", "\\bstatic *\\{",
        "import (?!java\\.util\\.(ArrayList|List|Arrays|Iterator|NoSuchElementException);)",
    };

    public static void main(String[] args) throws Exception {
        checkFace();
        checkClassesInside();
        checkSource();
        checkLengths();
        System.out.println(wrong == 0 ? "FaceTest: all stands" : "FaceTest: " + wrong + " wrong");
        if (wrong != 0) {
            System.exit(1);
        }
    }

    private static void checkFace() throws Exception {
        Set<String> methods = new TreeSet<>();
        Set<String> hidden = new TreeSet<>();
        for (Method m : CursorKeep.class.getDeclaredMethods()) {
            if (Modifier.isPublic(m.getModifiers())) {
                methods.add(told(m));
            } else {
                same(m.getName() + " is private", Modifier.isPrivate(m.getModifiers()), true);
                hidden.add(m.getName());
            }
        }
        same("methods", methods, new TreeSet<>(Arrays.asList(METHODS)));
        for (String name : hidden) {
            same("no public method is named as the private " + name,
                    methods.stream().anyMatch(m -> m.contains(" " + name + "(")), false);
        }
        Set<String> constants = new TreeSet<>();
        for (Field f : CursorKeep.class.getDeclaredFields()) {
            if (Modifier.isPublic(f.getModifiers())) {
                same(f.getName() + " is static and final", f.getModifiers(),
                        Modifier.PUBLIC | Modifier.STATIC | Modifier.FINAL);
                constants.add(f.getName() + "=" + f.getInt(null));
            } else {
                same(f.getName() + " is private", Modifier.isPrivate(f.getModifiers()), true);
            }
        }
        same("constants", constants, new TreeSet<>(Arrays.asList(CONSTANTS)));
        Constructor<?>[] made = CursorKeep.class.getDeclaredConstructors();
        same("constructors", made.length, 1);
        same("constructor", Modifier.isPublic(made[0].getModifiers()) && made[0].getParameterCount() == 0, true);
        same("class", CursorKeep.class.getModifiers(), Modifier.PUBLIC | Modifier.FINAL);
    }

    private static void checkClassesInside() {
        Class<?>[] inside = CursorKeep.class.getDeclaredClasses();
        same("at most twelve classes", inside.length + 1 <= MOST_CLASSES, true);
        checkMembers(CursorKeep.class);
        for (Class<?> c : inside) {
            same(c + " is static", Modifier.isStatic(c.getModifiers()), true);
            same(c + " is neither public nor protected",
                    c.getModifiers() & (Modifier.PUBLIC | Modifier.PROTECTED), 0);
            checkMembers(c);
        }
    }

    private static void checkMembers(Class<?> c) {
        int kept = 0;
        for (Field f : c.getDeclaredFields()) {
            boolean isStatic = Modifier.isStatic(f.getModifiers());
            same("static " + f + " is final", !isStatic || Modifier.isFinal(f.getModifiers()), true);
            kept += isStatic ? 0 : 1;
        }
        same("at most twenty fields in " + c, kept <= MOST_FIELDS, true);
        for (Method m : c.getDeclaredMethods()) {
            same("at most seven parameters of " + m, m.getParameterCount() <= MOST_PARAMETERS, true);
            same(m + " is no answer of every object", OF_EVERY_OBJECT.contains(m.getName()), false);
        }
    }

    private static String told(Method m) {
        StringBuilder s = new StringBuilder(m.getReturnType() + " " + m.getName() + "(");
        for (int i = 0; i < m.getParameterCount(); i++) {
            s.append(i == 0 ? "" : ",").append(m.getParameterTypes()[i]);
        }
        s.append(")");
        for (int i = 0; i < m.getExceptionTypes().length; i++) {
            s.append(i == 0 ? " throws " : ",").append(m.getExceptionTypes()[i].getSimpleName());
        }
        return s.toString().replace("IndexOutOfBoundsException", "IOOBE")
                .replace("IllegalArgumentException", "IAE").replace("IllegalStateException", "ISE");
    }

    private static void checkSource() throws Exception {
        String source = Files.readString(Path.of("src/main/java/CursorKeep.java"));
        String code = source.replaceAll("(?s)/\\*.*?\\*/", "").replaceAll("//[^\n]*", "")
                .replaceAll("\"[^\"\n]*\"", "\"\"");
        for (String sign : RULED_OUT) {
            same("source has " + sign, java.util.regex.Pattern.compile(sign).matcher(code).find(), false);
        }
    }

    /** A method, or a block in one, ends with the brace that stands as far in as its first line. */
    private static void checkLengths() throws Exception {
        List<String> lines = Files.readAllLines(Path.of("src/main/java/CursorKeep.java"));
        int checked = 0;
        for (int i = 0; i < lines.size(); i++) {
            String line = lines.get(i);
            same("line " + (i + 1) + " has signs 1 to 127 alone", line.matches("[\\x01-\\x7f]*"), true);
            if (line.matches("( {4}| {8})\\w.*\\(.*") && !line.endsWith(";")) {
                String last = " ".repeat(line.length() - line.stripLeading().length()) + "}";
                int length = lines.subList(i, lines.size()).indexOf(last) + 1;
                same("the lines of what begins in line " + (i + 1), length > 0 && length <= MOST_LINES, true);
                checked++;
            }
        }
        same("methods are found", checked > METHODS.length, true);
    }

    private static void same(String what, Object got, Object want) {
        if (!got.equals(want)) {
            wrong++;
            System.out.println("FaceTest: " + what + ": " + got + ", due is " + want);
        }
    }
}
