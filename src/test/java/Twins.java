import java.util.ArrayList;
import java.util.List;
import java.util.function.Supplier;
import java.util.function.ToLongFunction;

/** Two objects are made alike; one gets a call more, which must change nothing. Then all that can be seen is compared. */
final class Twins {
    private Twins() {
    }

    /** A call that answers so and changes nothing at all. */
    static void stays(String what, Supplier<MicRow> scene, long want, ToLongFunction<MicRow> call) {
        MicRow x = scene.get();
        MicRow y = scene.get();
        Check.eq(what, call.applyAsLong(x), want);
        same(what, x, y);
    }

    static void none(String what, Supplier<MicRow> scene, ToLongFunction<MicRow> call) {
        MicRow x = scene.get();
        MicRow y = scene.get();
        Check.none(what, () -> call.applyAsLong(x));
        same(what, x, y);
    }

    /** A call that reads THE TEXT, answers so and changes nothing but that THE TEXT is empty then. */
    static void emptied(String text, Supplier<MicRow> scene, long want, ToLongFunction<MicRow> call) {
        MicRow x = scene.get();
        MicRow y = scene.get();
        Check.say(x, text);
        Check.yes("end(0)", y.end(0));
        Check.eq("of '" + text + "'", call.applyAsLong(x), want);
        Check.eq("THE TEXT behind '" + text + "'", x.count(8), 0);
        same("of '" + text + "'", x, y);
    }

    /** Both are used up: what can be undone, what is kept and THE TEXT are seen by undoing, going back and reading. */
    static void same(String what, MicRow x, MicRow y) {
        alike(what, x, y);
        Check.eq(what + ": undo()", x.undo(), y.undo());
        alike(what + ": undone", x, y);
        for (int i = 0; i < 2; i++) {
            Check.yes(what + ": again(" + i + ")", x.again(i) == y.again(i));
            alike(what + ": again(" + i + ")", x, y);
        }
        Check.eq(what + ": THE TEXT", x.mics(), y.mics());
        alike(what + ": THE TEXT", x, y);
    }

    static void alike(String what, MicRow x, MicRow y) {
        List<Long> one = all(x);
        List<Long> other = all(y);
        Check.yes(what + ": " + one + " is as " + other, one.equals(other));
    }

    /** All that can be seen without a change. */
    static List<Long> all(MicRow x) {
        List<Long> all = scene(x);
        for (int what = 6; what < 9; what++) {
            all.add((long) x.count(what));
        }
        int numbers = x.count(7);
        for (int i = 0; i < numbers; i++) {
            all.add(x.row(i));
        }
        return all;
    }

    /** All that the document's first term tells of. */
    static List<Long> scene(MicRow x) {
        List<Long> all = new ArrayList<>();
        for (int what = 0; what < 6; what++) {
            all.add((long) x.count(what));
        }
        for (int m = 0; m < all.get(0); m++) {
            for (int what = 0; what < 6; what++) {
                all.add((long) x.mic(m, what));
            }
        }
        for (int s = 0; s < all.get(1); s++) {
            int steps = x.source(s, 2);
            for (int what = 0; what < 3 + steps; what++) {
                all.add((long) x.source(s, what));
            }
        }
        return all;
    }

    /**
     * Four MICS, of which 0, 2 and 3 are LIVE and 3 is DEAD, two SOURCES; eight changes can be undone, two scenes are
     * kept, the ROW has three numbers and THE TEXT is 07.
     */
    static MicRow rich() {
        MicRow x = Check.with("02,05,11,18", "+3254871;-5381");
        x.keep(0);
        x.sets(0, 0, 150);
        x.sets(1, 1, 3);
        x.sets(2, 2, 60);
        x.sets(3, 3, 1);
        x.keep(1);
        x.sets(1, 4, 1);
        x.holds(0, 300);
        x.holds(1, 7);
        x.holds(2, 9);
        x.beams(2);
        x.sign('0' << 24 | '7' << 16);
        x.end(2);
        return x;
    }

    static MicRow oneLive() {
        MicRow x = rich();
        x.sets(2, 4, 1);
        x.sets(3, 4, 1);
        return x;
    }

    static MicRow noneLive() {
        MicRow x = oneLive();
        x.sets(0, 4, 1);
        return x;
    }

    static MicRow noSources() {
        MicRow x = rich();
        x.goes(1);
        x.goes(0);
        return x;
    }
}
