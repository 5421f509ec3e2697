import java.util.NoSuchElementException;

/** What the tests of the promises share: they count what is wrong and print it. */
final class Check {
    interface Call {
        void run();
    }

    private static int right = 0;
    private static int wrong = 0;
    private static String about = "";

    private Check() {
    }

    /** What the next checks are about stands ahead of what they print. */
    static void about(String words) {
        about = words;
    }

    static int made() {
        return right + wrong;
    }

    static void eq(String what, long got, long want) {
        if (got == want) {
            right++;
        } else {
            wrong++;
            System.out.println(about + what + " is " + got + ", due is " + want);
        }
    }

    static void yes(String what, boolean got) {
        eq(what, got ? 1 : 0, 1);
    }

    static void no(String what, boolean got) {
        eq(what, got ? 1 : 0, 0);
    }

    static void none(String what, Call call) {
        String thrown = "nothing";
        try {
            call.run();
        } catch (RuntimeException e) {
            thrown = e.getClass().getName();
        }
        yes(what + " throws NoSuchElementException (it threw " + thrown + ")",
            thrown.equals(NoSuchElementException.class.getName()));
    }

    /** The whole ROW. */
    static void row(String what, MicRow x, long... numbers) {
        eq(what + ": numbers of the ROW", x.count(7), numbers.length);
        for (int i = 0; i < numbers.length && i < x.count(7); i++) {
            eq(what + ": row(" + i + ")", x.row(i), numbers[i]);
        }
    }

    /** A ROW that no call tells by chance, to see later that it stayed. */
    static void mark(MicRow x) {
        int clip = x.count(3);
        x.beams(0);
        eq("the mark could be made", x.count(3), clip);
    }

    /** That a call answers so and leaves the ROW and what can be undone; Twins looks at all there is. */
    static void refused(String what, MicRow x, long want, java.util.function.ToLongFunction<MicRow> call) {
        long undone = x.count(6);
        long numbers = x.count(7);
        long last = numbers > 0 ? x.row((int) numbers - 1) : 0;
        eq(what, call.applyAsLong(x), want);
        eq(what + ": what can be undone", x.count(6), undone);
        eq(what + ": numbers of the ROW", x.count(7), numbers);
        eq(what + ": the last of them", numbers > 0 ? x.row((int) numbers - 1) : 0, last);
    }

    /** All that questions without a ROW tell of the state, but THE TEXT. */
    static long[] seen(MicRow x) {
        StringBuilder all = new StringBuilder();
        for (int what = 0; what < 8; what++) {
            all.append(x.count(what)).append(' ');
        }
        for (int i = 0; i < x.count(7); i++) {
            all.append(x.row(i)).append(' ');
        }
        for (int m = 0; m < x.count(0); m++) {
            for (int what = 0; what < 6; what++) {
                all.append(x.mic(m, what)).append(' ');
            }
        }
        for (int s = 0; s < x.count(1); s++) {
            for (int what = 0; what < 3 + x.source(s, 2); what++) {
                all.append(x.source(s, what)).append(' ');
            }
        }
        return java.util.Arrays.stream(all.toString().trim().split(" ")).mapToLong(Long::parseLong).toArray();
    }

    /** THE TEXT becomes s. */
    static void say(MicRow x, String s) {
        yes("end(0)", x.end(0));
        for (int p = 0; p < s.length(); p += 4) {
            int v = 0;
            for (int k = 0; k < 4; k++) {
                v = v << 8 | (p + k < s.length() ? s.charAt(p + k) : 0);
            }
            eq("sign of " + s, x.sign(v), p + 4);
        }
        yes("end of " + s, x.end(s.length()));
    }

    static int mics(MicRow x, String s) {
        say(x, s);
        return x.mics();
    }

    static int sources(MicRow x, String s) {
        say(x, s);
        return x.sources();
    }

    static int day(MicRow x, String s) {
        say(x, s);
        return x.day();
    }

    static MicRow with(String mics, String sources) {
        MicRow x = new MicRow();
        eq("mics " + mics, mics(x, mics), (mics.length() + 1) / 3);
        yes("sources " + sources, sources(x, sources) >= 0);
        return x;
    }

    static void finish() {
        System.out.println(right + " passed, " + wrong + " failed");
        System.exit(wrong == 0 && right > 0 ? 0 : 1);
    }
}
