import java.io.IOException;
import java.lang.reflect.Field;
import java.lang.reflect.Modifier;
import java.nio.file.Files;
import java.nio.file.Path;
import java.util.ArrayDeque;
import java.util.TreeMap;
import java.util.TreeSet;
import java.util.regex.Matcher;
import java.util.regex.Pattern;

/** Rule 11 of LANGUAGE.md: short methods, calls that do not go deep, few fields and classes. */
public final class RulesTest {
    private static final int LONGEST = 60;
    private static final int DEEPEST = 8;
    private static final int MOST_FIELDS = 20;
    private static final int MOST_CLASSES = 12;
    private static final int MOST_TAKEN = 7;
    private static final Pattern HEAD = Pattern.compile(
        "^ +(?:public |private |static |final )*(?:[\\w\\[\\]]+ )?(\\w+)\\(([^)]*)\\)(?: throws \\w+)? \\{$");
    private static final Pattern CLASS = Pattern.compile("^ *(?:public |private |static |final )*class (\\w+) \\{$");
    private static final Pattern FIELD = Pattern.compile("^ +(?:private |final )*([A-Z]\\w+) (\\w+)(?: = new .*)?;$");
    private static final Pattern CALL = Pattern.compile("(?<!new )(?:\\b(\\w+)\\.)?\\b(\\w+)\\(");

    /** By a method (Class.name) those that it calls; methods of one class and one name count as one. */
    private static final TreeMap<String, TreeSet<String>> CALLED = new TreeMap<>();

    /** Of what class a name of an object is; each such name is of one class alone in the whole file. */
    private static final TreeMap<String, String> KIND = new TreeMap<>();

    public static void main(String[] args) throws IOException {
        String source = Files.readString(Path.of("src/main/java/MicRow.java"));
        read(source.replaceAll("(?s)/\\*.*?\\*/", "").replaceAll("//[^\n]*", "").replaceAll("\"[^\"\n]*\"", "\"\"").split("\n"));
        Check.yes("methods were found: " + CALLED.size(), CALLED.size() > 100);
        for (String name : CALLED.keySet()) {
            int deep = depth(name, new ArrayDeque<>());
            Check.yes(name + " goes " + deep + " calls deep", deep <= DEEPEST);
        }
        fieldsAreFew(MicRow.class);
        for (Class<?> c : MicRow.class.getDeclaredClasses()) {
            fieldsAreFew(c);
        }
        Check.yes("few classes", MicRow.class.getDeclaredClasses().length + 1 <= MOST_CLASSES);
        Check.finish();
    }

    private static void read(String[] lines) {
        readFields(lines);
        String inside = "";
        for (int i = 0; i < lines.length; i++) {
            Matcher kind = CLASS.matcher(lines[i]);
            if (kind.matches()) {
                inside = kind.group(1);
            }
            if (lines[i].equals("    }")) {
                inside = "MicRow";
            }
            Matcher head = HEAD.matcher(lines[i]);
            if (head.matches() && !head.group(1).matches("if|for|while|switch|[A-Z]\\w*")) {
                readMethod(lines, i, inside, head);
            }
        }
    }

    private static void readFields(String[] lines) {
        for (String line : lines) {
            Matcher field = FIELD.matcher(line);
            if (field.matches() && !field.group(1).equals("String")) {
                String other = KIND.put(field.group(2), field.group(1));
                Check.yes(field.group(2) + " is of one class", other == null || other.equals(field.group(1)));
            }
        }
    }

    private static void readMethod(String[] lines, int begin, String inside, Matcher head) {
        String indent = lines[begin].substring(0, lines[begin].length() - lines[begin].stripLeading().length());
        String name = inside + "." + head.group(1);
        TreeSet<String> names = CALLED.computeIfAbsent(name, k -> new TreeSet<>());
        int end = begin + 1;
        while (end < lines.length && !lines[end].equals(indent + "}")) {
            addCalls(names, inside, lines[end]);
            end++;
        }
        Check.yes(name + " has " + (end - begin + 1) + " lines", end - begin + 1 <= LONGEST);
        Check.yes(name + " takes few", head.group(2).split(",").length <= MOST_TAKEN);
    }

    private static void addCalls(TreeSet<String> names, String inside, String line) {
        Matcher call = CALL.matcher(line);
        while (call.find()) {
            String of = call.group(1) == null ? inside : KIND.getOrDefault(call.group(1), call.group(1));
            if (!call.group(2).matches("if|for|while|switch|return")) {
                names.add(of + "." + call.group(2));
            }
        }
    }

    /** What a class inside calls without a name ahead of it may be one of the outer class. */
    private static TreeSet<String> calledBy(String name) {
        String outer = "MicRow" + name.substring(name.indexOf('.'));
        return CALLED.getOrDefault(name, CALLED.getOrDefault(outer, new TreeSet<>()));
    }

    /** Calls that stand open at once, the first one and the library's too. */
    private static int depth(String name, ArrayDeque<String> open) {
        if (open.contains(name)) {
            Check.yes(name + " is called by itself: " + open, false);
            return 0;
        }
        open.push(name);
        int most = 0;
        for (String one : calledBy(name)) {
            most = Math.max(most, depth(one, open));
        }
        open.pop();
        return most + 1;
    }

    private static void fieldsAreFew(Class<?> of) {
        int many = 0;
        for (Field f : of.getDeclaredFields()) {
            many += Modifier.isStatic(f.getModifiers()) ? 0 : 1;
        }
        Check.yes(of.getName() + " has " + many + " fields", many <= MOST_FIELDS);
    }
}
