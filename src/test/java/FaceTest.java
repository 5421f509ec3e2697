import java.io.IOException;
import java.lang.reflect.Constructor;
import java.lang.reflect.Field;
import java.lang.reflect.Method;
import java.lang.reflect.Modifier;
import java.nio.file.Files;
import java.nio.file.Path;
import java.util.TreeSet;
import java.util.regex.Pattern;

/** The face that the document gives, and those rules of LANGUAGE.md that can be seen by looking. */
public final class FaceTest {
    private static final String[] FACE = {
        "int sign(int)", "boolean end(int)", "int mics()", "int sources()", "int sheet(int,int,int,int)",
        "int mic(int,int)!", "int source(int,int)!", "int sample(int,int)!", "int turned(int,int,int)!",
        "int beam(int,int)!", "int blocked(int,int,int)!", "int clean(int,int)!", "int level(int)", "int beams(int)",
        "int weights(int)", "int loudest(int)", "int pattern()", "int agree(int,int,int)", "int from()",
        "int doubtful()", "int tracks(int)", "int strongest(int)", "int faults(int)", "int clipped(int)",
        "int without(int,int)", "int worst(int)", "int best(int,int)", "int masks(int)", "int nulled(int,int)",
        "int behind(int,int)", "int later(int)", "int settles(int)", "int sets(int,int,int)", "int holds(int,int)",
        "int moves(int,int)", "int learns()", "int sorts(int)", "int aims(int,int,int)", "int goes(int)", "int day()",
        "int undo()", "int years(int,int)", "boolean keep(int)", "boolean again(int)", "int count(int)", "long row(int)!"};

    public static void main(String[] args) throws IOException {
        faceIsTheDocuments();
        nothingElseIsSeen();
        namesAreNotUsedAgain();
        sourceKeepsToTheRules(Files.readString(Path.of("src/main/java/MicRow.java")));
        callsMakeNothing();
        Check.finish();
    }

    private static String told(Method m) {
        StringBuilder s = new StringBuilder(m.getReturnType().getName()).append(' ').append(m.getName()).append('(');
        for (int i = 0; i < m.getParameterCount(); i++) {
            s.append(i == 0 ? "" : ",").append(m.getParameterTypes()[i].getName());
        }
        s.append(')');
        for (Class<?> e : m.getExceptionTypes()) {
            s.append(e == java.util.NoSuchElementException.class ? "!" : "?");
        }
        return s.toString();
    }

    private static void faceIsTheDocuments() {
        TreeSet<String> there = new TreeSet<>();
        for (Method m : MicRow.class.getDeclaredMethods()) {
            if (Modifier.isPublic(m.getModifiers())) {
                Check.no(m.getName() + " is static", Modifier.isStatic(m.getModifiers()));
                there.add(told(m));
            }
        }
        TreeSet<String> due = new TreeSet<>(java.util.List.of(FACE));
        Check.yes("the face is " + there, there.equals(due));
        Check.eq("46 calls", due.size(), 46);
        Check.yes("the class is public and final", Modifier.isPublic(MicRow.class.getModifiers()) && Modifier.isFinal(MicRow.class.getModifiers()));
        Check.eq("one constructor", MicRow.class.getDeclaredConstructors().length, 1);
    }

    private static void nothingElseIsSeen() {
        for (Field f : MicRow.class.getDeclaredFields()) {
            boolean none = f.getName().equals("NONE");
            Check.yes(f.getName() + " is hidden", none || Modifier.isPrivate(f.getModifiers()));
            Check.yes(f.getName() + " is final", Modifier.isFinal(f.getModifiers()));
        }
        for (Method m : MicRow.class.getDeclaredMethods()) {
            Check.yes(m.getName() + " is public or private", (m.getModifiers() & (Modifier.PUBLIC | Modifier.PRIVATE)) != 0);
        }
        for (Constructor<?> c : MicRow.class.getDeclaredConstructors()) {
            Check.eq("the constructor takes nothing", c.getParameterCount(), 0);
        }
        Check.yes("some twelve classes at most", MicRow.class.getDeclaredClasses().length <= 11);
        for (Class<?> c : MicRow.class.getDeclaredClasses()) {
            Check.yes(c.getName() + " is static", Modifier.isStatic(c.getModifiers()));
            Check.no(c.getName() + " is not public", Modifier.isPublic(c.getModifiers()) || Modifier.isProtected(c.getModifiers()));
        }
    }

    private static void namesAreNotUsedAgain() {
        TreeSet<String> names = new TreeSet<>();
        for (String one : FACE) {
            names.add(one.substring(one.indexOf(' ') + 1, one.indexOf('(')));
        }
        for (Method m : MicRow.class.getDeclaredMethods()) {
            Check.no(m.getName() + " is hidden and of the face", Modifier.isPrivate(m.getModifiers()) && names.contains(m.getName()));
        }
        for (Class<?> c : MicRow.class.getDeclaredClasses()) {
            for (Method m : c.getDeclaredMethods()) {
                Check.no(c.getName() + "." + m.getName() + " is of the face", names.contains(m.getName()));
                Check.yes(m.getName() + " takes seven at most", m.getParameterCount() <= 7);
            }
        }
    }

    private static void sourceKeepsToTheRules(String source) {
        String code = source.replaceAll("(?s)/\\*.*?\\*/", "").replaceAll("//[^\n]*", "").replaceAll("\"[^\"\n]*\"", "\"\"");
        String[] never = {"\\btry\\b", "\\bcatch\\b", "\\bfinally\\b", "\\bassert\\b", "\\bsynchronized\\b", "->", "::",
            "Exact\\b", "\\bpackage\\b", "\\bnull\\b", "\\bdouble\\b", "\\bfloat\\b", "\\bObject\\b", "\\bprotected\\b",
            "Random", "nanoTime", "currentTimeMillis", "static \\{", "import (?!java\\.util\\.(Arrays|NoSuchElementException);)"};
        for (String one : never) {
            Check.no("the source has " + one, Pattern.compile(one).matcher(code).find());
        }
        Check.no("static fields that are not final", Pattern.compile("static (?!final)[\\w\\[\\]]+ \\w+( =|;)").matcher(code).find());
        for (int i = 0; i < source.length(); i++) {
            if (source.charAt(i) > 126) {
                Check.yes("signs of the source are plain at " + i, false);
            }
        }
    }

    /** All calls of a run live in one room, so none may make rows of its own. */
    private static void callsMakeNothing() {
        com.sun.management.ThreadMXBean bean =
            (com.sun.management.ThreadMXBean) java.lang.management.ManagementFactory.getThreadMXBean();
        dearRun(new MicRow());
        MicRow x = new MicRow();
        long thread = Thread.currentThread().getId();
        long ahead = bean.getThreadAllocatedBytes(thread);
        dearRun(x);
        long made = bean.getThreadAllocatedBytes(thread) - ahead;
        Check.yes("a run of dear calls makes next to nothing (" + made + " bytes)", made < 20000);
    }

    private static void dearRun(MicRow x) {
        int[] mics = {0x30302c30, 0x332c3037, 0x2c31312c, 0x32302c33, 0x31000000};
        int[] sources = {0x2b333532, 0x37353031, 0x38363b2d, 0x35333830, 0x34373133};
        for (int v : mics) {
            x.sign(v);
        }
        x.end(17);
        Check.eq("six", x.mics(), 6);
        for (int v : sources) {
            x.sign(v);
        }
        x.end(20);
        Check.eq("two", x.sources(), 2);
        x.holds(2, 48);
        for (int i = 0; i < 20; i++) {
            x.sets(i % 6, 1, i % 10);
            x.loudest(1);
            x.worst(i % 8);
            x.settles(3);
            x.tracks(4);
            x.best(3, 1);
            x.clean(2, i);
            x.nulled(1, 3);
            x.learns();
            x.sign(0x6c6c6c6c);
            x.day();
            x.years(i, 30);
            x.undo();
            x.keep(0);
            x.again(0);
        }
    }
}
