import java.io.IOException;
import java.lang.reflect.Field;
import java.lang.reflect.Method;
import java.lang.reflect.Modifier;
import java.nio.file.Files;
import java.nio.file.Path;
import java.util.Set;
import java.util.TreeSet;
import java.util.regex.Matcher;
import java.util.regex.Pattern;

/** The face of the document, and those rules of LANGUAGE.md that a look at the text can tell. */
public final class LanguageTest {
    private static final Checks CHECKS = new Checks();
    private static final String[] FACE = {"feed:int:5", "end:boolean:1", "lake:int:0", "fault:int:1", "has:int:1", "letter:int:3",
        "boat:int:2", "cell:int:2", "hand:int:2", "likes:int:2", "sky:int:1", "kept:int:2", "dread:int:3", "route:int:3", "gentle:int:3",
        "runs:int:2", "order:int:3", "lead:int:3", "match:int:1", "trials:int:1", "trusts:int:1", "next:int:1", "go:int:2", "file:int:1",
        "coax:int:2", "man:boolean:2", "hours:int:1", "drift:int:1", "undo:boolean:0", "seed:boolean:1", "ask:long:1", "image:int:0",
        "octet:int:1", "on:boolean:0", "status:int:1"};

    public static void main(String[] args) throws IOException {
        face();
        classesInside();
        text(Files.readString(Path.of("src/main/java/ShyBoats.java")));
        CHECKS.finish();
    }

    private static void face() {
        Set<String> due = new TreeSet<>(Set.of(FACE));
        Set<String> got = new TreeSet<>();
        for (Method method : ShyBoats.class.getDeclaredMethods()) {
            if (Modifier.isPublic(method.getModifiers())) {
                got.add(method.getName() + ":" + method.getReturnType() + ":" + method.getParameterCount());
            } else {
                CHECKS.due("private: " + method, Modifier.isPrivate(method.getModifiers()), true);
            }
        }
        CHECKS.due("face is " + got, got.equals(due), true);
        for (Field field : ShyBoats.class.getDeclaredFields()) {
            boolean constant = field.getName().equals("NONE") || field.getName().equals("NOTHING");
            CHECKS.due("public: " + field, Modifier.isPublic(field.getModifiers()), constant);
            CHECKS.due("private: " + field, Modifier.isPrivate(field.getModifiers()), !constant);
        }
        CHECKS.due("final", Modifier.isFinal(ShyBoats.class.getModifiers()), true);
        CHECKS.due("constructors", ShyBoats.class.getConstructors().length, 1);
    }

    private static void classesInside() {
        Set<String> names = new TreeSet<>();
        for (String row : FACE) {
            names.add(row.substring(0, row.indexOf(':')));
        }
        Class<?>[] inside = ShyBoats.class.getDeclaredClasses();
        CHECKS.due("twelve classes at most", inside.length < 12, true);
        for (Class<?> one : inside) {
            CHECKS.due("static: " + one, Modifier.isStatic(one.getModifiers()), true);
            int fields = 0;
            for (Field field : one.getDeclaredFields()) {
                boolean constant = Modifier.isStatic(field.getModifiers());
                fields += constant ? 0 : 1;
                CHECKS.due("constant: " + field, !constant || Modifier.isFinal(field.getModifiers()), true);
            }
            CHECKS.due("twenty fields at most: " + one, fields <= 20, true);
            for (Method method : one.getDeclaredMethods()) {
                CHECKS.due("a name of its own: " + method, names.contains(method.getName()), false);
                CHECKS.due("seven parameters at most: " + method, method.getParameterCount() <= 7, true);
            }
        }
    }

    private static void text(String text) {
        String code = text.replaceAll("(?s)/\\*.*?\\*/", "").replaceAll("//[^\n]*", "").replaceAll("\"[^\"\n]*\"", "\"\"");
        String[] none = {"throw", "throws", "try", "catch", "finally", "synchronized", "assert", "native", "volatile", "double", "float",
            "package", "Object", "Thread", "Random", "Exception"};
        for (String word : none) {
            CHECKS.due("no " + word, Pattern.compile("\\b" + word + "\\b").matcher(code).find(), false);
        }
        CHECKS.due("no lambda", code.contains("->"), false);
        CHECKS.due("no method reference", code.contains("::"), false);
        CHECKS.due("no + of texts", code.contains("\"\" +") || code.contains("+ \"\""), false);
        Matcher library = Pattern.compile("\\b(import [\\w.]+|System\\.\\w+|Arrays\\.\\w+|Math\\.\\w+|Integer\\.\\w+|Long\\.\\w+)").matcher(code);
        Set<String> known = Set.of("import java.util.Arrays", "System.arraycopy", "Arrays.fill", "Math.min", "Math.max", "Math.abs",
            "Math.floorDiv", "Integer.bitCount");
        while (library.find()) {
            CHECKS.due(library.group() + " is in the library", known.contains(library.group()), true);
        }
    }
}
