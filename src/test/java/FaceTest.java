import java.lang.reflect.Constructor;
import java.lang.reflect.Field;
import java.lang.reflect.Method;
import java.lang.reflect.Modifier;
import java.nio.file.Files;
import java.nio.file.Path;
import java.util.ArrayList;
import java.util.Arrays;
import java.util.List;
import java.util.Set;
import java.util.TreeSet;
import java.util.regex.Matcher;
import java.util.regex.Pattern;

/** The public face is the one that the document tells, and the source keeps to what can be seen of LANGUAGE.md. */
public final class FaceTest {
    private static final Path SOURCE = Path.of("src/main/java/HintTeam.java");
    private static final Path DOCUMENT = Path.of("../shared/DOC.md");
    private static final String[] FORBIDDEN = {"->", "::", "\\btry\\b", "\\bcatch\\b", "\\bfinally\\b",
        "\\bsynchronized\\b", "\\bassert\\b", "\\bstatic \\{", "\\bdouble\\b", "\\bfloat\\b",
        "\\bimport (?!java\\.util\\.)", "System\\.(?!arraycopy)", "Exact\\(", "\\bhashCode\\b", "\\btoString\\(\\)",
        "\\.equals\\(", "\" \\+", "\\+ \""};

    private static int wrong;

    public static void main(String[] args) throws Exception {
        face();
        nothingElse();
        source();
        lengths();
        System.out.println("FaceTest: " + wrong + " wrong");
        if (wrong != 0) {
            System.exit(1);
        }
    }

    private static void wrong(String what) {
        wrong++;
        System.out.println("face: " + what);
    }

    private static void face() throws Exception {
        String text = Files.readString(DOCUMENT);
        text = text.substring(text.indexOf("public final class HintTeam {"), text.indexOf("## Description"));
        Set<String> due = new TreeSet<>();
        Matcher line = Pattern.compile("^    public (.*);$", Pattern.MULTILINE).matcher(text);
        while (line.find()) {
            due.add(line.group(1).replaceAll(" throws .*", "").replaceAll("(int|long|boolean) \\w+([,)])", "$1$2"));
        }
        Set<String> is = new TreeSet<>();
        for (Field field : HintTeam.class.getDeclaredFields()) {
            if (Modifier.isPublic(field.getModifiers())) {
                is.add("static final int " + field.getName() + " = " + field.get(null));
            }
        }
        for (Constructor<?> constructor : HintTeam.class.getDeclaredConstructors()) {
            is.add("HintTeam" + parameters(constructor.getParameterTypes()));
        }
        for (Method method : HintTeam.class.getDeclaredMethods()) {
            if (Modifier.isPublic(method.getModifiers())) {
                is.add(method.getReturnType() + " " + method.getName() + parameters(method.getParameterTypes()));
            }
        }
        if (!is.equals(due) || due.size() != 9 + 1 + 43) {
            wrong("the face is " + is + ", due is " + due);
        }
    }

    private static String parameters(Class<?>[] types) {
        List<String> names = new ArrayList<>();
        for (Class<?> type : types) {
            names.add(type.getSimpleName());
        }
        return "(" + String.join(", ", names) + ")";
    }

    private static void nothingElse() {
        Set<String> publicNames = new TreeSet<>();
        for (Method method : HintTeam.class.getDeclaredMethods()) {
            if (Modifier.isPublic(method.getModifiers())) {
                publicNames.add(method.getName());
            }
        }
        for (Method method : HintTeam.class.getDeclaredMethods()) {
            boolean isPrivate = Modifier.isPrivate(method.getModifiers());
            if (!Modifier.isPublic(method.getModifiers()) && (!isPrivate || publicNames.contains(method.getName()))) {
                wrong(method.toString());
            }
        }
        for (Field field : HintTeam.class.getDeclaredFields()) {
            if (!Modifier.isPublic(field.getModifiers()) && !Modifier.isPrivate(field.getModifiers())) {
                wrong(field.toString());
            }
        }
        Class<?>[] nested = HintTeam.class.getDeclaredClasses();
        if (nested.length > 11) {
            wrong(nested.length + " classes inside");
        }
        for (Class<?> type : nested) {
            countFields(type);
            for (Method method : type.getDeclaredMethods()) {
                if (publicNames.contains(method.getName())) {
                    wrong(method.toString());
                }
            }
        }
        countFields(HintTeam.class);
    }

    private static void countFields(Class<?> type) {
        long fields = Arrays.stream(type.getDeclaredFields())
                .filter(field -> !Modifier.isStatic(field.getModifiers())).count();
        if (fields > 20) {
            wrong(type + " has " + fields + " fields");
        }
        for (Field field : type.getDeclaredFields()) {
            if (Modifier.isStatic(field.getModifiers()) && !Modifier.isFinal(field.getModifiers())) {
                wrong(field.toString());
            }
        }
    }

    private static void source() throws Exception {
        List<String> lines = Files.readAllLines(SOURCE);
        for (int k = 0; k < lines.size(); k++) {
            for (String pattern : FORBIDDEN) {
                if (Pattern.compile(pattern).matcher(lines.get(k)).find()) {
                    wrong("line " + (k + 1) + " has " + pattern);
                }
            }
        }
    }

    /** Methods begin with a line that ends in "{" and end with a "}" as far to the right. */
    private static void lengths() throws Exception {
        List<String> lines = Files.readAllLines(SOURCE);
        for (int k = 0; k < lines.size(); k++) {
            Matcher start = Pattern.compile("^( {4}| {8})[a-z].*\\) (throws .*)?\\{$").matcher(lines.get(k));
            if (start.matches()) {
                int end = lines.subList(k, lines.size()).indexOf(start.group(1) + "}");
                if (end >= 60) {
                    wrong("line " + (k + 1) + " begins " + end + " lines");
                }
            }
        }
    }
}
