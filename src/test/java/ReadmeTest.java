import java.io.IOException;
import java.lang.reflect.Method;
import java.lang.reflect.Modifier;
import java.nio.charset.StandardCharsets;
import java.nio.file.DirectoryStream;
import java.nio.file.Files;
import java.nio.file.Path;
import java.util.ArrayList;
import java.util.List;
import java.util.Set;
import java.util.TreeSet;
import java.util.regex.Matcher;
import java.util.regex.Pattern;

/** What README.md says is so: its calls are made here, as they stand there, and its tables leave nothing out. */
public final class ReadmeTest {
    private static final Pattern TELL = Pattern.compile("tell\\(house, (program|\"[^\"]*\")\\); +// (true|false)\\b.*");
    private static final Pattern CALL = Pattern.compile("house\\.(\\w+)\\(([-0-9, ]*)\\); +// (true|false|-?[0-9]+)\\b.*");

    private static TaintHouse house = null;
    private static String program = "";
    private static int asked = 0;

    public static void main(String[] args) throws IOException, ReflectiveOperationException {
        String readme = read(Path.of("README.md"));
        List<String> java = blocks(readme, "java");
        List<String> texts = blocks(readme, "text");
        Bench.due("blocks of Java", java.size(), 3);
        Bench.due("blocks of text", texts.size(), 1);
        String own = read(Path.of("src/test/java/ReadmeTest.java"));
        Bench.due("the helper is the one that is used here", oneBlank(own).contains(oneBlank(java.get(0))), true);
        program = texts.get(0);
        for (String line : (java.get(1) + java.get(2)).split("\n")) {
            follow(line);
        }
        Bench.due("calls were made", asked > 20, true);
        calls(readme, String.join("\n", java));
        classes(section(readme, "How it is built"));
        tests(section(readme, "Tests"));
        room(readme);
        Bench.finish();
    }

    private static String read(Path path) throws IOException {
        return Files.readString(path, StandardCharsets.UTF_8);
    }

    private static String oneBlank(String text) {
        return text.replaceAll("\\s+", " ");
    }

    private static List<String> blocks(String readme, String language) {
        List<String> found = new ArrayList<>();
        Matcher matcher = Pattern.compile("(?s)```" + language + "\n(.*?)```").matcher(readme);
        while (matcher.find()) {
            found.add(matcher.group(1));
        }
        return found;
    }

    private static String section(String readme, String title) {
        int from = readme.indexOf("## " + title + "\n");
        int to = readme.indexOf("\n## ", from + 1);
        return from < 0 ? "" : readme.substring(from, to < 0 ? readme.length() : to);
    }

    /** Makes the call that a line has, and holds what it answers against what the line says. */
    private static void follow(String line) throws ReflectiveOperationException {
        Matcher tell = TELL.matcher(line);
        Matcher call = CALL.matcher(line);
        if (line.equals("TaintHouse house = new TaintHouse();")) {
            house = new TaintHouse();
        } else if (tell.matches()) {
            String text = tell.group(1).equals("program") ? program : tell.group(1).replace("\"", "");
            asked++;
            Bench.due(line, tell(house, text), tell.group(2).equals("true"));
        } else if (call.matches()) {
            asked++;
            String answer = make(call.group(1), call.group(2));
            Bench.due(line + " (it answered " + answer + ")", answer.equals(call.group(3)), true);
        } else {
            Bench.due("a line that can be followed: " + line, false, true);
        }
    }

    private static String make(String name, String numbers) throws ReflectiveOperationException {
        String[] told = numbers.isEmpty() ? new String[0] : numbers.split(", *");
        Class<?>[] kinds = new Class<?>[told.length];
        Object[] values = new Object[told.length];
        for (int i = 0; i < told.length; i++) {
            kinds[i] = int.class;
            values[i] = Integer.parseInt(told[i]);
        }
        return String.valueOf(TaintHouse.class.getMethod(name, kinds).invoke(house, values));
    }

    /** The helper of README.md, sign by sign. */
    static boolean tell(TaintHouse house, String text) {
        for (int at = 0; at < text.length(); at += 20) {
            if (!house.feed(four(text, at), four(text, at + 4), four(text, at + 8), four(text, at + 12), four(text, at + 16))) {
                return false;
            }
        }
        return house.end(text.length());
    }

    static int four(String text, int at) {
        int number = 0;
        for (int i = at; i < at + 4; i++) {
            number = number << 8 | (i < text.length() ? text.charAt(i) & 255 : 0);
        }
        return number;
    }

    /** Each call of the face has a row, with as many arguments, and is made in the Java ahead of it. */
    private static void calls(String readme, String java) {
        Set<String> due = new TreeSet<>();
        for (Method method : TaintHouse.class.getDeclaredMethods()) {
            if (Modifier.isPublic(method.getModifiers())) {
                due.add(method.getName() + "/" + method.getParameterCount());
                Bench.due("a call of " + method.getName(), java.contains("house." + method.getName() + "("), true);
            }
        }
        List<String> rows = new ArrayList<>();
        Matcher matcher = Pattern.compile("(?m)^\\| `(\\w+)\\(([^)]*)\\)` \\|").matcher(readme);
        while (matcher.find()) {
            int arguments = matcher.group(2).isEmpty() ? 0 : matcher.group(2).split(",").length;
            rows.add(matcher.group(1) + "/" + arguments);
        }
        Bench.due("a row for each of " + due + ": " + rows, new TreeSet<>(rows).equals(due), true);
        Bench.due("rows for " + rows, rows.size(), due.size());
    }

    private static void classes(String section) {
        Set<String> told = quoted(section, "[A-Z]\\w*");
        Set<String> due = new TreeSet<>(Set.of("TaintHouse"));
        for (Class<?> inside : TaintHouse.class.getDeclaredClasses()) {
            due.add(inside.getSimpleName());
        }
        Bench.due("the classes are " + due + ": " + told, told.equals(due), true);
    }

    private static void tests(String section) throws IOException {
        Set<String> told = quoted(section, "\\w+Test");
        Set<String> due = new TreeSet<>();
        try (DirectoryStream<Path> files = Files.newDirectoryStream(Path.of("src/test/java"), "*Test.java")) {
            for (Path file : files) {
                due.add(file.getFileName().toString().replace(".java", ""));
            }
        }
        Bench.due("the tests are " + due + ": " + told, told.equals(due), true);
        Bench.due(".ci/run is told", section.contains("    .ci/run\n"), true);
        Bench.due(".ci/run can be run", Files.isExecutable(Path.of(".ci/run")), true);
    }

    private static Set<String> quoted(String section, String name) {
        Set<String> found = new TreeSet<>();
        Matcher matcher = Pattern.compile("`(" + name + ")`").matcher(section);
        while (matcher.find()) {
            found.add(matcher.group(1));
        }
        return found;
    }

    private static void room(String readme) throws IllegalAccessException {
        Matcher matcher = Pattern.compile("some ([0-9]+),000 elements").matcher(readme);
        Bench.due("README.md tells the elements of an object", matcher.find(), true);
        long cells = RoomTest.cellsOf(new TaintHouse());
        Bench.due("thousands of elements in " + cells, Long.parseLong(matcher.group(1)), Math.round(cells / 1000.0));
    }
}
