import java.io.IOException;
import java.lang.reflect.InvocationTargetException;
import java.lang.reflect.Method;
import java.lang.reflect.Modifier;
import java.nio.file.Files;
import java.nio.file.Path;
import java.util.ArrayList;
import java.util.List;
import java.util.TreeMap;
import java.util.regex.Matcher;
import java.util.regex.Pattern;
import java.util.stream.Stream;

/** README.md must not tell what is not so: its rows of calls are run, and it names every call and every test. */
public final class ReadmeTest {
    private static final Pattern ROW = Pattern.compile("x\\.(\\w+)\\(([^)]*)\\);\\s+// (\\S+)");
    private static final TreeMap<String, Method> CALLS = new TreeMap<>();

    public static void main(String[] args) throws Exception {
        for (Method m : MicRow.class.getDeclaredMethods()) {
            if (Modifier.isPublic(m.getModifiers())) {
                CALLS.put(m.getName(), m);
            }
        }
        String page = Files.readString(Path.of("README.md"));
        rowsAnswerSo(page);
        everyCallIsNamed(page);
        everyTestIsNamed(page);
        Check.yes("it says how its tests are run", page.contains("`.ci/run`"));
        Check.finish();
    }

    private static void rowsAnswerSo(String page) throws Exception {
        int begin = page.indexOf("```java\n");
        int end = page.indexOf("```", begin + 3);
        Check.yes("there is Java to be run", begin >= 0 && end > begin);
        MicRow x = new MicRow();
        int rows = 0;
        for (String line : page.substring(begin, end).split("\n")) {
            Matcher row = ROW.matcher(line);
            if (row.matches()) {
                rows++;
                String got = answer(x, row.group(1), row.group(2));
                Check.yes(line + ": it answered " + got, got.equals(row.group(3)));
            } else {
                Check.no("a row that can't be run: " + line, line.startsWith("x."));
            }
        }
        Check.yes("rows to be run: " + rows, rows >= 20);
    }

    private static String answer(MicRow x, String name, String values) throws Exception {
        Method call = CALLS.get(name);
        List<Object> all = new ArrayList<>();
        for (String one : values.isEmpty() ? new String[0] : values.split(", ")) {
            all.add(Integer.decode(one));
        }
        if (call == null || call.getParameterCount() != all.size()) {
            return "nothing, as there is no such call";
        }
        try {
            return String.valueOf(call.invoke(x, all.toArray()));
        } catch (InvocationTargetException e) {
            return e.getCause().getClass().getSimpleName();
        }
    }

    private static void everyCallIsNamed(String page) {
        for (String name : CALLS.keySet()) {
            Check.yes("README.md names " + name, page.contains("`" + name + "`"));
        }
    }

    private static void everyTestIsNamed(String page) throws IOException {
        try (Stream<Path> files = Files.list(Path.of("src/test/java"))) {
            for (Path file : files.toList()) {
                String name = file.getFileName().toString().replace(".java", "");
                boolean runs = Files.readString(file).contains("static void main(");
                Check.yes("README.md names " + name, !runs || page.contains("| " + name + " |"));
            }
        }
    }
}
