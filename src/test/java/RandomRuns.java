import java.lang.reflect.InvocationTargetException;
import java.lang.reflect.Method;
import java.util.Arrays;
import java.util.List;
import java.util.Random;
import java.util.TreeMap;

/** Runs of drawn calls, 512 at most, on MicRow and on PlainModel at once: every answer must be the same. */
public final class RandomRuns {
    /** All that is asked of an object counts, what is looked at too; what a text needs and a last look must still fit in. */
    private static final int CALLS = 512;
    private static final int LAST_LOOK = 180;
    private final Random random;
    private final MicRow real = new MicRow();
    private final PlainModel model = new PlainModel();
    private final StringBuilder story = new StringBuilder();
    private int calls;

    private static final TreeMap<String, Method> REAL = methodsOf(MicRow.class);
    private static final TreeMap<String, Method> MODEL = methodsOf(PlainModel.class);

    private RandomRuns(long seed) {
        random = new Random(seed);
    }

    private static TreeMap<String, Method> methodsOf(Class<?> of) {
        TreeMap<String, Method> all = new TreeMap<>();
        for (Method m : of.getDeclaredMethods()) {
            if (java.lang.reflect.Modifier.isPublic(m.getModifiers())) {
                m.setAccessible(true);
                all.put(m.getName(), m);
            }
        }
        return all;
    }

    public static void main(String[] args) throws Exception {
        int runs = args.length > 0 ? Integer.parseInt(args[0]) : 400;
        int first = args.length > 1 ? Integer.parseInt(args[1]) : 0;
        int failed = 0;
        for (int seed = first; seed < first + runs && failed < 3; seed++) {
            RandomRuns run = new RandomRuns(seed);
            if (!run.goesWell()) {
                failed++;
                System.out.println("seed " + seed + " went wrong, the last call being the wrong one:\n" + run.story);
            }
        }
        System.out.println((runs - failed) + " passed, " + failed + " failed");
        System.exit(failed == 0 ? 0 : 1);
    }

    private boolean goesWell() throws Exception {
        if (!tell(micsText()) || !call("mics") || !tell(sourcesText()) || !call("sources")) {
            return false;
        }
        while (calls + LAST_LOOK < CALLS) {
            if (!drawnCall()) {
                return false;
            }
        }
        return seesTheSame() && calls <= CALLS;
    }

    private static String answer(Object on, Method m, Object[] args) throws Exception {
        try {
            return String.valueOf(m.invoke(on, args));
        } catch (InvocationTargetException e) {
            return "throws " + e.getCause().getClass().getName();
        }
    }

    private boolean call(String name, int... values) throws Exception {
        List<Long> told = model.told();
        if (differs(name, values)) {
            return false;
        }
        boolean tells = !told.equals(model.told()) || random.nextInt(8) == 0;
        return (!tells || rowIsTheSame()) && (random.nextInt(4) != 0 || !differs("count", from(0, 8)));
    }

    private boolean rowIsTheSame() throws Exception {
        boolean same = !differs("count", 7);
        for (int i = 0; same && i < model.count(7); i++) {
            same = !differs("row", i);
        }
        return same;
    }

    private boolean seesTheSame() throws Exception {
        boolean same = rowIsTheSame();
        for (int what = 0; same && what < 9; what++) {
            same = !differs("count", what);
        }
        for (int m = 0; m < model.count(0); m++) {
            for (int what = 0; same && what < 6; what++) {
                same = !differs("mic", m, what);
            }
        }
        for (int s = 0; s < model.count(1); s++) {
            for (int what = 0; same && what < 3 + model.source(s, 2); what++) {
                same = !differs("source", s, what);
            }
        }
        return same;
    }

    private boolean differs(String name, int... values) throws Exception {
        calls++;
        Object[] args = Arrays.stream(values).boxed().toArray();
        String got = answer(real, REAL.get(name), args);
        String want = answer(model, MODEL.get(name), args);
        story.append("  ").append(name).append(Arrays.toString(values)).append(" answered ").append(got);
        if (!got.equals(want)) {
            story.append(", due is ").append(want);
        }
        story.append('\n');
        return !got.equals(want);
    }

    private int from(int least, int most) {
        return least + random.nextInt(most - least + 1);
    }

    private boolean seldom() {
        return random.nextInt(25) == 0;
    }

    private int wild() {
        int[] all = {-1, 7, 9, -9, 41, 49, 201, -201, 301, -301, 401, 10000, Integer.MAX_VALUE, Integer.MIN_VALUE,
            Integer.MAX_VALUE - 2, random.nextInt()};
        return all[random.nextInt(all.length)];
    }

    private int near(int least, int most) {
        return seldom() ? wild() : random.nextInt(12) == 0 ? (random.nextBoolean() ? least : most) : from(least, most);
    }

    private int mic() {
        return seldom() ? wild() : from(0, Math.max(0, model.count(0) - 1));
    }

    private int direction() {
        return near(-8, 8);
    }

    private int source() {
        return seldom() ? wild() : from(0, Math.max(0, model.count(1) - 1));
    }

    private String spoilt(String s) {
        if (random.nextInt(6) != 0) {
            return s;
        }
        String signs = "0123456789+-,;gwdocblsax" + (char) 200 + (char) 0;
        int p = random.nextInt(s.length() + 1);
        switch (random.nextInt(3)) {
            case 0:
                return s.substring(0, p);
            case 1:
                return s.substring(0, p) + signs.charAt(random.nextInt(signs.length())) + s.substring(p);
            default:
                return p == s.length() ? s : s.substring(0, p) + signs.charAt(random.nextInt(signs.length())) + s.substring(p + 1);
        }
    }

    private String micsText() {
        StringBuilder s = new StringBuilder();
        int many = random.nextInt(20) == 0 ? from(0, 7) : from(2, 6);
        int place = random.nextInt(3);
        for (int m = 0; m < many && place <= 40; m++) {
            s.append(m == 0 ? "" : ",").append(place / 10).append(place % 10);
            place += from(1, random.nextBoolean() ? 3 : 8);
        }
        return spoilt(s.toString());
    }

    private String sourcesText() {
        StringBuilder s = new StringBuilder();
        int many = random.nextInt(15) == 0 ? from(0, 5) : from(1, 4);
        for (int q = 0; q < many; q++) {
            s.append(q == 0 ? "" : ";").append(random.nextBoolean() ? '+' : '-').append(from(0, 8)).append(from(1, 9));
            int steps = seldom() ? from(1, 13) : from(2, 12);
            for (int k = 0; k < steps; k++) {
                s.append(from(0, 8));
            }
        }
        return spoilt(s.toString());
    }

    private String dayText() {
        StringBuilder s = new StringBuilder();
        int acts = from(0, 6);
        for (int k = 0; k < acts; k++) {
            int m = Math.abs(mic()) % 10;
            String[] all = {"g" + m + String.format("%03d", from(0, 420)), "w" + m + from(0, 9), "d" + m + from(0, 1),
                "o" + m + from(0, 1), "c" + String.format("%04d", from(0, 1500)), "b" + String.format("%03d", from(0, 210)),
                "l", "s" + String.format("%02d", from(1, 49)), "a" + Math.abs(source()) % 10 + "+-".charAt(from(0, 1)) + from(0, 8)};
            s.append(all[random.nextInt(all.length)]);
        }
        return spoilt(s.toString());
    }

    private boolean tell(String s) throws Exception {
        if (!call("end", 0)) {
            return false;
        }
        for (int p = 0; p < s.length(); p += 4) {
            int v = 0;
            for (int k = 0; k < 4; k++) {
                v = v << 8 | (p + k < s.length() ? s.charAt(p + k) & 255 : 0);
            }
            if (!call("sign", v)) {
                return false;
            }
        }
        return call("end", s.length());
    }

    private boolean drawnCall() throws Exception {
        switch (random.nextInt(52)) {
            case 0: return tell(micsText()) && call("mics");
            case 1: return tell(sourcesText()) && call("sources");
            case 2: case 3: case 4: return tell(dayText()) && call("day");
            case 5: return call("sheet", near(0, 3), near(-1, 7), seldom() ? random.nextInt() : from(-50, 500), seldom() ? random.nextInt() : from(-100, 200));
            case 6: return call("mic", mic(), near(-1, 6));
            case 7: return call("source", source(), near(-1, 15));
            case 8: return call("sample", mic(), near(-300, 300));
            case 9: return call("turned", mic(), direction(), near(-200, 200));
            case 10: return call("beam", direction(), near(-200, 200));
            case 11: return call("blocked", direction(), near(-1, 5), near(-200, 200));
            case 12: return call("clean", direction(), near(-200, 200));
            case 13: return call("level", mic());
            case 14: return call("beams", direction());
            case 15: return call("weights", direction());
            case 16: return call("loudest", near(0, 1));
            case 17: return call("pattern");
            case 18: return call("agree", mic(), mic(), direction());
            case 19: return call("from");
            case 20: return call("doubtful");
            case 21: return call("tracks", near(1, 8));
            case 22: return call("strongest", mic());
            case 23: return call("faults", near(0, random.nextBoolean() ? 12 : 48));
            case 24: return call("clipped", mic());
            case 25: return call("without", mic(), direction());
            case 26: return call("worst", direction());
            case 27: return call("best", near(1, 6), direction());
            case 28: return call("masks", direction());
            case 29: return call("nulled", direction(), model.count(1) > 0 && random.nextBoolean() ? model.source(0, 0) : direction());
            case 30: return call("behind", mic(), mic());
            case 31: return call("later", near(0, 200));
            case 32: return call("settles", model.count(1) > 0 && random.nextBoolean() ? model.source(0, 0) : direction());
            case 33: return call("sets", mic(), 0, near(1, 400));
            case 34: return call("sets", mic(), 1, near(0, 9));
            case 35: return call("sets", mic(), 2, near(1, 200));
            case 36: case 37: return call("sets", mic(), from(3, 4), random.nextInt(4) == 0 ? near(0, 2) : 0);
            case 38: return call("sets", mic(), near(-1, 5), near(0, 10));
            case 39: return call("holds", 0, random.nextInt(4) == 0 ? 9999 : near(1, random.nextBoolean() ? 60 : 2000));
            case 40: return call("holds", 1, near(0, 200));
            case 41: return call("holds", 2, near(4, 48));
            case 42: return call("holds", near(-1, 3), near(0, 50));
            case 43: return call("moves", mic(), near(0, 40));
            case 44: return call("learns");
            case 45: return call("sorts", near(1, random.nextBoolean() ? 8 : 48));
            case 46: return call("aims", source(), near(-1, 2), near(-8, 9));
            case 47: return random.nextInt(4) == 0 ? call("goes", source()) : call("aims", source(), 0, direction());
            case 48: return call("undo");
            case 49: return call("years", random.nextInt(), near(1, 30));
            case 50: return random.nextBoolean() ? call("keep", near(0, 1)) : random.nextInt(3) == 0 ? call("again", near(0, 1)) : call("keep", wild());
            default: return call("end", near(0, 3)) && call("sign", random.nextInt());
        }
    }
}
