import java.io.IOException;
import java.lang.reflect.Constructor;
import java.lang.reflect.Field;
import java.lang.reflect.Method;
import java.lang.reflect.Modifier;
import java.nio.charset.StandardCharsets;
import java.nio.file.Files;
import java.nio.file.Path;
import java.util.ArrayList;
import java.util.List;
import java.util.Set;
import java.util.TreeSet;
import java.util.regex.Matcher;
import java.util.regex.Pattern;

/** Those rules of LANGUAGE.md that can be seen from the source's text and the class's members. */
public final class LanguageTest {
    public static void main(String[] args) throws IOException {
        String text = new String(Files.readAllBytes(Path.of("src/main/java/TaintHouse.java")), StandardCharsets.ISO_8859_1);
        String code = text.replaceAll("(?s)/\\*.*?\\*/", "").replaceAll("//[^\n]*", "").replaceAll("\"[^\"\n]*\"", "\"\"");
        face();
        words(code);
        methods(code);
        Bench.due("signs outside 7 bits", text.chars().filter(c -> c > 126 || c < 32 && c != '\n').count(), 0);
        Bench.finish();
    }

    /** Rule 1: the document's members alone. */
    private static void face() {
        Set<String> seen = new TreeSet<>();
        Set<String> own = new TreeSet<>();
        for (Method method : TaintHouse.class.getDeclaredMethods()) {
            if (Modifier.isPrivate(method.getModifiers()) || method.isSynthetic()) {
                own.add(method.getName());
            } else {
                Bench.due("public: " + method, Modifier.isPublic(method.getModifiers()), true);
                seen.add(method.getReturnType() + " " + method.getName() + method.getParameterCount());
            }
        }
        Set<String> due = new TreeSet<>(List.of("boolean feed5", "boolean end1", "int text0", "int place0", "int flows1", "int policy2", "int input2",
            "int argument3", "int run1", "int result1"));
        due.addAll(List.of("int event2", "int object2", "int slot3", "int stat2", "int type2", "int method2", "int count1"));
        Bench.due("the face is " + seen, seen.equals(due), true);
        for (String name : seen) {
            Bench.due("a private method named as " + name, own.contains(name.replaceAll("^.* |[0-9]", "")), false);
        }
        for (Field field : TaintHouse.class.getDeclaredFields()) {
            Bench.due("field " + field, Modifier.isPrivate(field.getModifiers()) || field.getName().equals("NONE"), true);
        }
        Constructor<?>[] constructors = TaintHouse.class.getDeclaredConstructors();
        Bench.due("constructors", constructors.length, 1);
        Bench.due("classes inside", TaintHouse.class.getDeclaredClasses().length <= 12, true);
        for (Class<?> inside : TaintHouse.class.getDeclaredClasses()) {
            Bench.due("static: " + inside, Modifier.isStatic(inside.getModifiers()), true);
            long fields = List.of(inside.getDeclaredFields()).stream().filter(f -> !Modifier.isStatic(f.getModifiers())).count();
            Bench.due("fields of " + inside + ": " + fields, fields <= 20, true);
        }
    }

    /** Rules 2, 4, 6: what must not stand in it. */
    private static void words(String code) {
        Pattern banned = Pattern.compile("\\b(throw|throws|try|catch|finally|synchronized|assert|native|volatile|var|package|System|Thread|Random|Exception"
            + "|hashCode|toString|Exact|Object|Long|Integer|double|float)\\b|->|::");
        Matcher matcher = banned.matcher(code);
        while (matcher.find()) {
            Bench.due("banned: " + matcher.group(), true, false);
        }
        Matcher imports = Pattern.compile("import ([^;]+);").matcher(code);
        while (imports.find()) {
            Bench.due("import of " + imports.group(1), imports.group(1).equals("java.util.Arrays"), true);
        }
    }

    /** Rule 11: methods are short and take few parameters. */
    private static void methods(String code) {
        List<String> lines = new ArrayList<>(List.of(code.split("\n")));
        Pattern head = Pattern.compile("^( +)[A-Za-z][A-Za-z0-9\\[\\]<> ]*\\(([^()]*)\\) \\{$");
        int seen = 0;
        for (int i = 0; i < lines.size(); i++) {
            Matcher matcher = head.matcher(lines.get(i));
            if (!matcher.matches() || matcher.group(0).trim().matches("(if|for|while|switch|else|\\}).*")) {
                continue;
            }
            seen++;
            int end = i;
            while (!lines.get(end).equals(matcher.group(1) + "}")) {
                end++;
            }
            Bench.due("lines of " + lines.get(i).trim() + " are " + (end - i + 1), end - i + 1 <= 60, true);
            Bench.due("parameters of " + lines.get(i).trim(), matcher.group(2).split(",").length <= 7, true);
        }
        Bench.due("methods were seen", seen > 100, true);
    }
}
