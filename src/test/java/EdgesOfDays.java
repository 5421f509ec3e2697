import java.util.List;
import java.util.function.Consumer;

/** Promises 41 to 43: days told as texts, undone, and years that are drawn. */
final class EdgesOfDays {
    private static final int LEAST = Integer.MIN_VALUE;
    private static final int MOST = Integer.MAX_VALUE;

    private EdgesOfDays() {
    }

    static void all() {
        day();
        acts();
        actsOfMore();
        dayStops();
        dayWrong();
        undo();
        undoEach();
        years();
        yearsDrawn();
        draws();
    }

    private static void day() {
        Edges.edge(41, "THE TEXT tells A DAY (an empty one: nothing),", () -> {
            MicRow x = Twins.rich();
            MicRow y = Twins.rich();
            y.end(0);
            List<Long> ahead = Twins.scene(x);
            Check.eq("nothing", Check.day(x, ""), 0);
            Check.row("nothing", x, 0, 13);
            Check.yes("nothing is changed", ahead.equals(Twins.scene(x)));
            Check.eq("nothing more can be undone", x.count(6), 8);
            Check.eq("undone", x.undo(), y.undo());
            Check.eq("what was ahead of it", x.count(5), y.count(5));
            Check.eq("THE TEXT is read", Check.day(x, "o01") + x.count(8), 1);
        });
        Edges.edge(41, "ACTS one behind another, without signs between:", () -> {
            MicRow x = Twins.rich();
            Check.eq("all kinds", Check.day(x, "g0050w17d21o01c0200b005ls48a1+0"), 9);
            Check.eq("80 signs", Check.day(x, "l".repeat(80)), 80);
            for (String between : new String[] {" ", ",", ";", "\n"}) {
                Twins.emptied("o01" + between + "o00", Twins::rich, -4, MicRow::day);
            }
        });
    }

    /** An ACT does what a call does, on twins: one and the same can be seen then. */
    private static void as(String act, Consumer<MicRow> call) {
        MicRow x = Twins.rich();
        MicRow y = Twins.rich();
        Check.eq(act, Check.day(x, act), 1);
        call.accept(y);
        y.end(0);
        y.day();
        Check.eq(act + ": the ROW", x.row(0), 0);
        Twins.same(act, x, y);
    }

    /** An ACT that can stand there, but can't be done. */
    private static void not(String act) {
        MicRow x = Twins.rich();
        MicRow y = Twins.rich();
        Check.eq(act, Check.day(x, act + "b123"), 0);
        Check.row(act, x, 1, 13);
        y.end(0);
        y.day();
        x.day();
        Twins.same(act, x, y);
    }

    private static void wrong(int p, String text) {
        Twins.emptied(text, Twins::rich, -1 - p, MicRow::day);
    }

    private static void acts() {
        Edges.edge(41, "g, a digit (MIC), three digits (sets() of GAIN),", () -> {
            as("g0001", x -> x.sets(0, 0, 1));
            as("g3400", x -> x.sets(3, 0, 400));
            not("g0000");
            not("g0401");
            not("g0999");
            not("g0150");
            not("g4100");
            not("g9100");
            wrong(1, "gx100");
            wrong(2, "g0x00");
            wrong(3, "g01x0");
            wrong(4, "g010x");
            wrong(5, "g01000");
        });
        Edges.edge(41, "w, a digit, a digit (of WIND),", () -> {
            as("w09", x -> x.sets(0, 1, 9));
            as("w10", x -> x.sets(1, 1, 0));
            not("w13");
            not("w41");
            wrong(1, "wx1");
            wrong(2, "w0x");
            wrong(3, "w011");
        });
        Edges.edge(41, "d, a digit, a digit (of DEAD),", () -> {
            as("d01", x -> x.sets(0, 3, 1));
            as("d30", x -> x.sets(3, 3, 0));
            not("d00");
            not("d02");
            not("d09");
            not("d41");
            wrong(1, "dx1");
            wrong(2, "d0x");
        });
        Edges.edge(41, "o, a digit, a digit (of OUT),", () -> {
            as("o01", x -> x.sets(0, 4, 1));
            as("o10", x -> x.sets(1, 4, 0));
            not("o11");
            not("o02");
            not("o41");
            wrong(1, "ox1");
            wrong(2, "o0x");
        });
        Edges.edge(41, "c, four digits (holds() of CLIP),", () -> {
            as("c0001", x -> x.holds(0, 1));
            as("c9999", x -> x.holds(0, 9999));
            not("c0000");
            not("c0300");
            wrong(1, "cx");
            wrong(4, "c123b000");
            wrong(5, "c12345");
        });
        Edges.edge(41, "b, three digits (of BEGIN),", () -> {
            as("b000", x -> x.holds(1, 0));
            as("b200", x -> x.holds(1, 200));
            not("b201");
            not("b999");
            not("b007");
            wrong(1, "bx");
            wrong(3, "b12x");
            wrong(4, "b1234");
        });
    }

    private static void actsOfMore() {
        Edges.edge(41, "l (learns()),", () -> {
            as("l", MicRow::learns);
            MicRow x = Twins.rich();
            Check.eq("one that changes nothing is done, too", Check.day(x, "ll"), 2);
            Check.eq("all are QUIET", Check.day(x, "d01d11d21l"), 3);
            Check.row("all are QUIET", x, 1, 13);
            wrong(1, "l1");
        });
        Edges.edge(41, "s, two digits (sorts()),", () -> {
            as("s01", x -> x.sorts(1));
            as("s48", x -> x.sorts(48));
            not("s00");
            not("s49");
            not("s99");
            MicRow x = Twins.rich();
            Check.eq("it is so then", Check.day(x, "s48s48"), 1);
            wrong(1, "sx");
            wrong(2, "s1x");
            wrong(3, "s011");
        });
        Edges.edge(41, "a, a digit (SOURCE), + or - and a digit 0 .. 8 (aims() of DIRECTION):", () -> {
            as("a0+8", x -> x.aims(0, 0, 8));
            as("a1-8", x -> x.aims(1, 0, -8));
            as("a0+0", x -> x.aims(0, 0, 0));
            as("a0-0", x -> x.aims(0, 0, 0));
            as("a0-3", x -> x.aims(0, 0, -3));
            not("a0+3");
            not("a2+1");
            not("a9+1");
            wrong(1, "ax");
            wrong(1, "a+8");
            wrong(2, "a08");
            wrong(2, "a0x8");
            wrong(3, "a0+9");
            wrong(3, "a0-9");
            wrong(3, "a0+x");
        });
    }

    private static void dayStops() {
        Edges.edge(41, "they are done one by one, till one can't be (it answers below 0): how many were done;", () -> {
            MicRow x = Twins.rich();
            Check.eq("three of five", Check.day(x, "g0001b009w02w02b010"), 3);
            Check.eq("the first", x.mic(0, 1), 1);
            Check.eq("not the last", x.count(4), 9);
            Check.eq("as those ahead left it", Check.day(x, "w03w02w02"), 2);
            Check.eq("each after the other", Check.day(x, "b001b002b003b004"), 4);
            Check.eq("the latest", x.count(4), 4);
        });
        Edges.edge(41, "the ROW: 1 if one could not be, else 0, LIVE MICS (bits).", () -> {
            MicRow x = Twins.rich();
            Check.day(x, "o10");
            Check.row("all could be", x, 0, 15);
            Check.day(x, "o01o01o11");
            Check.row("the second could not be", x, 1, 14);
            Check.day(x, "o01");
            Check.row("none could be", x, 1, 14);
            Check.day(x, "o11o21o31o31");
            Check.row("none is LIVE", x, 1, 0);
        });
    }

    private static void dayWrong() {
        Edges.edge(41, "-1 - p: the sign at p can't stand there", () -> {
            for (char first : new char[] {'x', '0', ' ', 'G', 'L', (char) 0, (char) 255, '+', 'e'}) {
                wrong(0, first + "01");
                wrong(3, "o01" + first);
            }
            String text = "g0050w17a1+0";
            for (int p = 0; p < text.length(); p++) {
                wrong(p, text.substring(0, p) + "?" + text.substring(p + 1));
            }
        });
        Edges.edge(41, "(its end, if it ends too early);", () -> {
            String[] whole = {"g0050", "w17", "d11", "o01", "c0300", "b005", "s48", "a1+0"};
            for (String act : whole) {
                for (int n = 1; n < act.length(); n++) {
                    wrong(n, act.substring(0, n));
                    wrong(n + 1, "l" + act.substring(0, n));
                }
            }
        });
        Edges.edge(41, "nothing is done then.", () -> {
            wrong(6, "o01o00x");
            wrong(10, "g0001w09d0");
            wrong(3, "o01x");
        });
    }

    private static void undo() {
        Edges.edge(42, "(of 8 that are kept, the latest ones;", () -> {
            MicRow x = Check.with("00", "");
            for (int v = 1; v <= 20; v++) {
                x.sets(0, 0, v);
                Check.eq("kept", x.count(6), Math.min(8, v + 2));
            }
            for (int left = 7; left >= 0; left--) {
                Check.eq("left", x.undo(), left);
                Check.eq("the latest first", x.mic(0, 1), 12 + left);
            }
            Check.eq("no more", x.undo(), -1);
            Check.eq("it stays", x.mic(0, 1), 12);
            x.sets(0, 0, 50);
            Check.eq("behind that one can be undone", x.undo() + x.mic(0, 1), 12);
        });
        Edges.edge(42, "such as were done;", () -> {
            MicRow x = Twins.rich();
            x.again(0);
            x.sets(0, 0, 100);
            x.sets(0, 0, 401);
            x.holds(0, 9999);
            x.holds(0, 0);
            x.moves(0, 2);
            x.moves(0, 5);
            x.sorts(0);
            x.sorts(48);
            x.aims(0, 0, 3);
            x.aims(0, 0, 9);
            x.goes(2);
            Check.mics(x, "x");
            Check.sources(x, "x");
            Check.day(x, "x");
            x.years(1, 30);
            x.sheet(2, 4, 7, 7);
            x.keep(0);
            Check.eq("none was", x.count(6), 0);
            Check.eq("none", x.undo(), -1);
        });
        Edges.edge(42, "day() of which one ACT was done, as one)", () -> {
            MicRow x = Twins.rich();
            x.again(0);
            List<Long> ahead = Twins.scene(x);
            Check.eq("three", Check.day(x, "g0001w09o01"), 3);
            Check.eq("one can be undone", x.count(6), 1);
            Check.eq("one of two", Check.day(x, "o00o00"), 1);
            Check.eq("two can be undone", x.count(6), 2);
            Check.eq("none", Check.day(x, "o00"), 0);
            Check.eq("nothing", Check.day(x, ""), 0);
            Check.eq("still two", x.count(6), 2);
            Check.eq("undone", x.undo() + x.mic(0, 5), 1 + 1);
            Check.eq("undone", x.undo(), 0);
            Check.yes("as ahead of it", ahead.equals(Twins.scene(x)));
        });
        Edges.edge(42, "Refused: none.", () -> {
            Twins.stays("of a new object", MicRow::new, -1, MicRow::undo);
            Twins.stays("again() forgot them", EdgesOfDays::fresh, -1, MicRow::undo);
        });
        Edges.edge(42, "(again() forgets them, if it is not refused.)", () -> {
            MicRow x = Check.with("00", "");
            x.sets(0, 0, 7);
            Check.no("refused", x.again(0) || x.again(2) || x.again(-1));
            Check.eq("three still", x.count(6), 3);
            x.keep(1);
            Check.no("refused", x.again(0));
            Check.eq("three still", x.count(6), 3);
            Check.yes("again()", x.again(1));
            Check.eq("forgotten", x.count(6), 0);
            Check.eq("none", x.undo(), -1);
            Check.eq("it stays", x.mic(0, 1), 7);
        });
    }

    private static MicRow fresh() {
        MicRow x = Twins.rich();
        x.again(0);
        return x;
    }

    private static void undoEach() {
        Edges.edge(42, "The latest mics(), sources(), sets(), holds(), moves(), learns(), sorts(), aims(), goes(), day()", () -> {
            undone("mics()", x -> Check.mics(x, "33"));
            undone("mics() of none", x -> Check.mics(x, ""));
            undone("sources()", x -> Check.sources(x, "+0108"));
            undone("sources() of none", x -> Check.sources(x, ""));
            for (int what = 0; what < 5; what++) {
                int w = what;
                undone("sets() of " + what, x -> x.sets(0, w, 1));
            }
            for (int what = 0; what < 3; what++) {
                int w = what;
                undone("holds() of " + what, x -> x.holds(w, 33));
            }
            undone("moves()", x -> x.moves(0, 1));
            undone("learns()", MicRow::learns);
            undone("sorts()", x -> x.sorts(1));
            undone("aims() of DIRECTION", x -> x.aims(0, 0, -8));
            undone("aims() of LOUD", x -> x.aims(0, 1, 9));
            undone("goes()", x -> x.goes(0));
            undone("day()", x -> Check.day(x, "g0001d01o01c0001b001la0-1"));
        });
        Edges.edge(42, "is undone (all that 1. tells of is as ahead of it): how many are left that can be.", () -> {
            MicRow x = Check.with("02,05", "+3254871");
            Check.eq("changes", x.sets(0, 0, 7) + x.holds(2, 30) + x.goes(0), 100 + 16);
            for (int left = 4; left >= 0; left--) {
                Check.eq("left", x.undo(), left);
                Check.eq("as counted", x.count(6), left);
            }
            Check.eq("as new", x.count(0) + x.count(1), 0);
            MicRow y = Twins.rich();
            y.sets(0, 0, 7);
            y.sheet(2, 4, 9, 0);
            y.undo();
            Check.eq("what a sheet did behind it goes with it", y.mic(0, 1) * 1000 + y.mic(1, 1), 150100);
            Check.eq("THE TEXT stays", y.count(8), 2);
            Check.eq("the ROW stays", y.count(7), 3);
            MicRow z = full();
            List<Long> ahead = Twins.scene(z);
            Check.sources(z, "+0188");
            Check.sources(z, "-01000000000000;-01000000000000;-01000000000000;-01000000000000");
            Check.mics(z, "00,01,02,03,04,05");
            Check.eq("back", z.undo() + z.undo() + z.undo(), 4 + 3 + 2);
            Check.yes("six MICS, four SOURCES of twelve steps", ahead.equals(Twins.scene(z)));
        });
    }

    /** As much as there can be. */
    static MicRow full() {
        return Check.with("10,11,12,13,14,40", "+81123456781238;+71123456781237;+61123456781236;+51123456781235");
    }

    private static void undone(String what, Consumer<MicRow> call) {
        MicRow x = Twins.rich();
        x.sets(3, 3, 0);
        List<Long> ahead = Twins.scene(x);
        call.accept(x);
        Check.no(what + " changes something", ahead.equals(Twins.scene(x)));
        Check.eq(what + " is undone", x.undo(), 7);
        Check.yes(what + ": as ahead of it", ahead.equals(Twins.scene(x)));
    }

    private static long next(long r) {
        return (r * 1103515245L + 12345L) & 0xffffffffL;
    }

    private static long drawn(long r, long n) {
        return r / 65536 % n;
    }

    /** The first seed of which one year is this. */
    private static int seedOf(int kind, int m, int v) {
        int[] of = {10, 2, 300};
        for (int seed = 0; seed < 1000000; seed++) {
            long one = next(seed);
            long two = next(one);
            long three = next(two);
            if (drawn(one, 3) == kind && drawn(two, 6) == m && drawn(three, of[kind]) == v) {
                return seed;
            }
        }
        Check.yes("there is a seed", false);
        return 0;
    }

    /** Six MICS that are heard unlike. */
    private static MicRow six() {
        MicRow x = Check.with("00,01,02,03,04,05", "+0908;+0908;+0908");
        int[] equal = {200, 150, 100, 60, 30, 10};
        for (int m = 0; m < 6; m++) {
            x.sets(m, 2, equal[m]);
        }
        return x;
    }

    /** A year that draws this is as the call. */
    private static void year(int kind, int m, int v, Consumer<MicRow> call) {
        MicRow x = six();
        MicRow y = six();
        int live = x.years(seedOf(kind, m, v), 1);
        call.accept(y);
        Check.eq("LIVE MICS of " + kind + ", " + m + ", " + v, live, y.count(2));
        Check.eq("LEVEL of " + kind + ", " + m + ", " + v, x.row(0), y.beams(0));
    }

    private static void years() {
        Edges.edge(43, "n times (1 .. 30;", () -> {
            for (int n : new int[] {1, 2, 29, 30}) {
                played(12345, n);
            }
        });
        Edges.edge(43, "it is forgotten):", () -> {
            for (int seed : new int[] {0, 1, 99, -5}) {
                MicRow x = Twins.rich();
                MicRow y = Twins.rich();
                Check.yes("a year", x.years(seed, 30) >= 0);
                x.beams(2);
                Twins.same("of seed " + seed, x, y);
            }
        });
        Edges.edge(43, "(what is refused is not done):", () -> {
            MicRow x = Check.with("00,01", "+0908");
            for (int kind = 0; kind < 3; kind++) {
                Check.eq("MIC 2 is not there", x.years(seedOf(kind, 2, 1), 1), 3);
                Check.row("MIC 2 is not there", x, 288);
                Check.eq("MIC 5 is not there", x.years(seedOf(kind, 5, 1), 1), 3);
                Check.row("MIC 5 is not there", x, 288);
            }
            Check.eq("of no MICS", new MicRow().years(7, 30), 0);
            year(0, 0, 0, y -> y.sets(0, 1, 0));
            year(1, 0, 0, y -> y.sets(0, 4, 0));
            year(2, 0, 99, y -> y.sets(0, 0, 100));
        });
        Edges.edge(43, "NONE: another n.", () -> {
            for (int n : new int[] {0, 31, -1, LEAST, MOST}) {
                Twins.stays("years(1, " + n + ")", Twins::rich, -1, x -> x.years(1, n));
            }
        });
    }

    private static void yearsDrawn() {
        Edges.edge(43, "a DRAW of 3: 0: DRAWS of 6, of 10: sets() of WIND;", () -> {
            year(0, 0, 9, x -> x.sets(0, 1, 9));
            year(0, 5, 1, x -> x.sets(5, 1, 1));
            year(0, 3, 5, x -> x.sets(3, 1, 5));
        });
        Edges.edge(43, "1: DRAWS of 6, of 2: sets() of OUT;", () -> {
            for (int m = 0; m < 6; m++) {
                int one = m;
                year(1, m, 1, x -> x.sets(one, 4, 1));
            }
            MicRow y = six();
            y.sets(4, 4, 1);
            Check.eq("no more OUT", y.years(seedOf(1, 4, 0), 1), 63);
        });
        Edges.edge(43, "2: DRAWS of 6, of 300: sets() of GAIN, 1 more", () -> {
            year(2, 0, 0, x -> x.sets(0, 0, 1));
            year(2, 5, 299, x -> x.sets(5, 0, 300));
            year(2, 2, 100, x -> x.sets(2, 0, 101));
        });
        Edges.edge(43, "LIVE MICS (bits) then;", () -> {
            MicRow x = Check.with("00,01,02,03,04,05", "+0908");
            // R is 2207042835, 33676: 1; then 22817: 5; then 43007: 1
            Check.eq("MIC 5 would be OUT", x.years(2, 1), 31);
            Check.eq("it is not", x.count(2), 63);
        });
        Edges.edge(43, "the ROW: LEVEL of BEAM to 0 then.", () -> {
            MicRow x = Check.with("00,01,02,03,04,05", "+0908");
            // R is 1103527590, 16838: 2; then 38526: 0; then 10113: 213, GAIN 214: (616 and 5 times 288) by 6
            x.years(1, 1);
            Check.row("LEVEL", x, 342);
            MicRow y = Check.with("05", "+0908");
            y.sets(0, 4, 1);
            y.years(seedOf(2, 0, 50), 1);
            Check.row("none is LIVE", y, 0);
        });
    }

    private static void draws() {
        Edges.edge(43, "A DRAW of n: R = R times 1103515245 + 12345 (as ints; R is seed at first), (R without sign, by 65536) % n.", () -> {
            for (int seed : new int[] {0, 7, -1, 123456789, LEAST, MOST}) {
                played(seed, 30);
                played(seed, 5);
            }
        });
    }

    /** Plays years() by sets(). */
    private static void played(int seed, int n) {
        MicRow x = six();
        int live = x.years(seed, n);
        long told = x.row(0);
        int[] of = {10, 2, 300};
        int[] whats = {1, 4, 0};
        long r = seed & 0xffffffffL;
        for (int i = 0; i < n; i++) {
            r = next(r);
            int kind = (int) drawn(r, 3);
            r = next(r);
            int m = (int) drawn(r, 6);
            r = next(r);
            int v = (int) drawn(r, of[kind]);
            x.sets(m, whats[kind], kind == 2 ? v + 1 : v);
        }
        Check.eq("LIVE MICS of " + seed + ", " + n, live, x.count(2));
        Check.eq("LEVEL of " + seed + ", " + n, told, x.beams(0));
    }
}
