import java.util.List;
import java.util.function.ToLongFunction;

/** The document's first term: what there is, how numbers are cut, which of equal ones is taken. */
final class EdgesOfTerms {
    /** Heard at PLACE 0: 8, 16, 24 in turns. */
    private static final String UP = "+01567";
    /** Heard at PLACE 0: 32 at each twelfth SAMPLE, else 0. */
    private static final String PULSE = "+01844444444444";
    /** Heard at PLACE 0: -32, -32, 32, 32 in turns; at PLACE 1 a SAMPLE later. */
    private static final String FOURS = "+810088";
    /** Four of these are heard as -1152, 1152 in turns. */
    private static final String LOUD = "+0908;+0908;+0908;+0908";

    private EdgesOfTerms() {
    }

    static void all() {
        mics();
        sources();
        span();
        waves();
        samples();
        turned();
        beams();
        rows();
        weights();
        weightsOfEqualPower();
        signs();
        faults();
        interfaceOrder();
    }

    private static void edge(String words, Check.Call test) {
        Edges.edge(Edges.TERMS, words, test);
    }

    private static void mics() {
        edge("1. MICS 0, 1, .. (6 at most, at first none): each", () -> {
            MicRow x = new MicRow();
            Check.eq("at first", x.count(0), 0);
            Check.eq("six", Check.mics(x, "00,01,02,03,04,05"), 6);
            Check.eq("MIC 0", x.mic(0, 0), 0);
            Check.eq("MIC 5", x.mic(5, 0), 5);
            Check.none("MIC 6", () -> x.mic(6, 0));
            Check.eq("seven", Check.mics(x, "00,01,02,03,04,05,06"), -18);
            Check.eq("six stay", x.count(0), 6);
        });
        edge("a PLACE 0 .. 40 (", () -> {
            MicRow x = new MicRow();
            Check.eq("both ends", Check.mics(x, "00,40"), 2);
            Check.eq("0", x.mic(0, 0), 0);
            Check.eq("40", x.mic(1, 0), 40);
            Check.eq("41", Check.mics(x, "41"), -2);
            Check.eq("moved to -1", x.moves(0, -1), -1);
            Check.eq("moved to 41", x.moves(1, 41), -1);
        });
        edge("unlike ones, rising by numbers)", () -> {
            MicRow x = new MicRow();
            Check.eq("like ones", Check.mics(x, "05,05"), -5);
            Check.eq("falling ones", Check.mics(x, "05,04"), -5);
            Check.eq("rising ones", Check.mics(x, "04,05"), 2);
            Check.eq("moved to be like", x.moves(0, 5), -3);
            Check.eq("moved to fall", x.moves(0, 6), -3);
        });
        ends("a GAIN 1 .. 400 (100)", 0, 1, 400, 100);
        ends("WIND 0 .. 9 (0)", 1, 0, 9, 0);
        ends("EQUAL 1 .. 200 (100)", 2, 1, 200, 100);
        edge("DEAD or not, OUT or not (at first neither).", () -> {
            MicRow x = Check.with("00", UP);
            Check.eq("not DEAD", x.mic(0, 4), 0);
            Check.eq("not OUT", x.mic(0, 5), 0);
            Check.eq("DEAD 2", x.sets(0, 3, 2), -1);
            Check.eq("OUT -1", x.sets(0, 4, -1), -1);
        });
        edge("CLIP 1 .. 9999 (9999).", () -> {
            MicRow x = new MicRow();
            Check.eq("at first", x.count(3), 9999);
            Check.eq("0", x.holds(0, 0), -1);
            Check.eq("10000", x.holds(0, 10000), -1);
            Check.eq("1", x.holds(0, 1), 9999);
            Check.eq("9999", x.holds(0, 9999), 1);
        });
    }

    private static void ends(String words, int what, int least, int most, int first) {
        edge(words, () -> {
            MicRow x = Check.with("00,03", UP);
            Check.eq("at first", x.mic(1, what + 1), first);
            Check.eq("below the least", x.sets(1, what, least - 1), -1);
            Check.eq("above the most", x.sets(1, what, most + 1), -1);
            Check.eq("the most", x.sets(1, what, most), first);
            Check.eq("it is the most", x.mic(1, what + 1), most);
            Check.eq("the least", x.sets(1, what, least), most);
            Check.eq("it is the least", x.mic(1, what + 1), least);
            Check.eq("at first of MICS anew", Check.mics(x, "00,03") + x.mic(1, what + 1), 2 + first);
        });
    }

    private static void sources() {
        edge("SOURCES 0, 1, .. (4 at most): each", () -> {
            MicRow x = new MicRow();
            Check.eq("at first", x.count(1), 0);
            Check.eq("four", Check.sources(x, LOUD), 4);
            Check.eq("SOURCE 3", x.source(3, 1), 9);
            Check.none("SOURCE 4", () -> x.source(4, 0));
            Check.eq("five", Check.sources(x, LOUD + ";+0108"), -24);
            Check.eq("four stay", x.count(1), 4);
        });
        edge("a DIRECTION -8 .. 8", () -> {
            MicRow x = Check.with("", "-8144;+8144");
            Check.eq("-8", x.source(0, 0), -8);
            Check.eq("8", x.source(1, 0), 8);
            Check.eq("-9", x.aims(0, 0, -9), -1);
            Check.eq("9", x.aims(0, 0, 9), -1);
            Check.eq("+9", Check.sources(x, "+9144"), -2);
        });
        edge("LOUD 1 .. 9", () -> {
            MicRow x = Check.with("", "+0144;+0944");
            Check.eq("1", x.source(0, 1), 1);
            Check.eq("9", x.source(1, 1), 9);
            Check.eq("0", x.aims(0, 1, 0), -1);
            Check.eq("10", x.aims(0, 1, 10), -1);
            Check.eq("0 told", Check.sources(x, "+0044"), -3);
        });
        edge("a WAVE of 2 .. 12 steps -4 .. 4.", () -> {
            MicRow x = Check.with("", "+0108;+01080808080808");
            Check.eq("two", x.source(0, 2), 2);
            Check.eq("twelve", x.source(1, 2), 12);
            Check.eq("-4", x.source(1, 3), -4);
            Check.eq("4", x.source(1, 14), 4);
            Check.eq("one", Check.sources(x, "+010"), -5);
            Check.eq("thirteen", Check.sources(x, "+010808080808080"), -16);
            Check.eq("a step 5", Check.sources(x, "+0109"), -5);
        });
    }

    private static void span() {
        edge("SPAN: SAMPLES from BEGIN (0 .. 200; 0) on,", () -> {
            MicRow x = Check.with("00", PULSE);
            Check.eq("at first", x.count(4), 0);
            Check.eq("-1", x.holds(1, -1), -1);
            Check.eq("201", x.holds(1, 201), -1);
            x.holds(2, 4);
            Check.eq("SAMPLE 0", x.level(0), 8);
            x.holds(1, 1);
            Check.eq("0 is ahead of BEGIN 1", x.level(0), 0);
            x.holds(1, 12);
            Check.eq("12 is in the SPAN of BEGIN 12", x.level(0), 8);
            x.holds(1, 200);
            Check.eq("200 .. 203", x.level(0), 0);
            x.holds(2, 5);
            Check.eq("200 .. 204", x.level(0), 6);
            Check.row("204", x, 204, 32, 204);
            Check.eq("0 again", x.holds(1, 0), 200);
        });
        edge("LONG 4 .. 48 (16) of them.", () -> {
            MicRow x = Check.with("00", PULSE);
            Check.eq("at first", x.count(5), 16);
            Check.eq("3", x.holds(2, 3), -1);
            Check.eq("49", x.holds(2, 49), -1);
            Check.eq("4", x.holds(2, 4), 16);
            x.holds(1, 9);
            Check.eq("12 is the last of four", x.level(0), 8);
            x.holds(1, 8);
            Check.eq("12 is behind the last", x.level(0), 0);
            Check.eq("48", x.holds(2, 48), 4);
            x.holds(1, 1);
            Check.eq("12, 24, 36 and 48", x.level(0), 2);
            Check.row("four squares by 48", x, 85, 32, 12);
            x.holds(1, 0);
            Check.eq("0, 12, 24 and 36", x.level(0), 2);
        });
        edge("All numbers are whole; \"by\" is cut towards 0.", () -> {
            MicRow x = Check.with("00", "+0131");
            x.holds(2, 4);
            // -8, -24 by GAIN 33: -2.64, -7.92
            x.sets(0, 0, 33);
            Check.eq("GAIN by 100 below 0", x.sample(0, 0), -2);
            Check.eq("GAIN by 100 below 0", x.sample(0, 1), -7);
            Check.eq("LEVEL: 18 by 4", x.level(0), 4);
            Check.row("POWER: 106 by 4", x, 26, 7, 1);
            Check.sources(x, "+0157");
            Check.eq("GAIN by 100 above 0", x.sample(0, 1), 7);
        });
    }

    private static void waves() {
        edge("w(k) of a WAVE, k any whole number: its step number k modulo how many it has (0 or more).", () -> {
            MicRow x = Check.with("00", UP);
            int[][] due = {{0, 8}, {1, 16}, {2, 24}, {3, 8}, {-1, 24}, {-2, 16}, {-3, 8}, {-4, 24}, {-300, 8}, {-299, 16},
                {300, 8}, {299, 24}};
            for (int[] one : due) {
                Check.eq("at " + one[0], x.sample(0, one[0]), one[1]);
            }
        });
        edge("HEARD of a SOURCE by a MIC of PLACE p at SAMPLE t (any whole number): x is 8 t less p times DIRECTION,", () -> {
            Check.eq("from 8: w(-1)", Check.with("01", "+81567").sample(0, 0), 24);
            Check.eq("from 8: w(0)", Check.with("01", "+81567").sample(0, 1), 8);
            Check.eq("from -8: w(1)", Check.with("01", "-81567").sample(0, 0), 16);
            Check.eq("from -8: w(0)", Check.with("01", "-81567").sample(0, -1), 8);
            Check.eq("40 from 8: w(-40)", Check.with("40", "+81567").sample(0, 0), 24);
            Check.eq("40 from 8 at -300: w(-340)", Check.with("40", "+81567").sample(0, -300), 24);
            Check.eq("40 from -8 at 300: w(340)", Check.with("40", "-81567").sample(0, 300), 16);
        });
        edge("k is x by 8 rounded down, f is x less 8 k:", () -> {
            Check.eq("x -1: w(-1) and 7 w(0)", Check.with("01", "+11567").sample(0, 0), 3 + 7);
            Check.eq("x 7: w(0) and 7 w(1)", Check.with("01", "+11567").sample(0, 1), 1 + 14);
            Check.eq("x 1: 7 w(0) and w(1)", Check.with("01", "-11567").sample(0, 0), 7 + 2);
            Check.eq("x -7: 7 w(-1) and w(0)", Check.with("01", "-11567").sample(0, -1), 21 + 1);
            Check.eq("x -8: 8 w(-1)", Check.with("01", "+81567").sample(0, 0), 24);
            Check.eq("x -9: w(-2) and 7 w(-1)", Check.with("01", "+11567").sample(0, -1), 2 + 21);
        });
        edge("LOUD times ((8 - f) w(k) + f w(k + 1)).", () -> {
            Check.eq("9 times, the step behind the last is the first", Check.with("01", "+19567").sample(0, 0), 90);
            Check.eq("9 times", Check.with("00", "+0980").sample(0, 0), 9 * 8 * 4);
            Check.eq("9 times below 0", Check.with("00", "+0980").sample(0, 1), -9 * 8 * 4);
            Check.eq("once", Check.with("00", "+0180").sample(0, 0), 8 * 4);
        });
    }

    private static void samples() {
        edge("GUST of MIC m at t: (s modulo 17) less 8, times 8, s being ((t and 300) times (t and 300) times 7, and (m and 1)"
            + " times (t and 311) times 13) modulo 1009 (all 0 or more).", () -> {
            // m 0, t -300: 143, 7. m 5, t -300: 858, 8. m 0, t 300: 2527943, 398, 7. m 5, t 300: 2567658, 762, 14. m 0, t 0: 634043, 391, 0
            int[][] due = {{0, -300, -8}, {5, -300, 0}, {0, 300, -8}, {5, 300, 48}, {0, 0, -64}};
            for (int[] one : due) {
                Check.eq("of " + one[0] + " at " + one[1], windy().sample(one[0], one[1]), one[2]);
            }
            for (int m = 0; m < 6; m++) {
                MicRow x = windy();
                for (int t = -300; t <= 300; t += 3) {
                    int s = ((t + 300) * (t + 300) * 7 + (m + 1) * (t + 311) * 13) % 1009;
                    Check.eq("of " + m + " at " + t, x.sample(m, t), (s % 17 - 8) * 8);
                }
            }
        });
        edge("SAMPLE of MIC m at t: 0, if it is DEAD;", () -> {
            MicRow x = Check.with("00,01", "+0980");
            x.sets(0, 1, 9);
            x.sets(0, 0, 400);
            x.sets(0, 3, 1);
            Check.eq("DEAD", x.sample(0, 0), 0);
            Check.eq("DEAD at -300", x.sample(0, -300), 0);
            Check.eq("the other one", x.sample(1, 0), 288);
            x.sets(0, 3, 0);
            Check.eq("no more", x.sample(0, 0), 4 * (288 - 9 * 64));
        });
        edge("else HEARD of all SOURCES and WIND times GUST, together, times GAIN by 100,", () -> {
            MicRow x = Check.with("00", "+0154;+0264");
            Check.eq("both", x.sample(0, 0), 8 + 32);
            x.sets(0, 1, 1);
            Check.eq("with GUST -64", x.sample(0, 0), -24);
            x.sets(0, 0, 33);
            Check.eq("cut once, together: -7.92", x.sample(0, 0), -7);
            x.sets(0, 0, 400);
            Check.eq("GAIN 400", x.sample(0, 0), -96);
            x.sets(0, 0, 1);
            Check.eq("GAIN 1", x.sample(0, 0), 0);
        });
        edge("HEARD of all SOURCES", EdgesOfTerms::allSourcesAreHeard);
        edge("held to -CLIP .. CLIP.", () -> {
            MicRow x = Check.with("00", "+0180");
            int[][] due = {{33, 32}, {32, 32}, {31, 31}, {1, 1}};
            for (int[] one : due) {
                x.holds(0, one[0]);
                Check.eq("above 0, CLIP " + one[0], x.sample(0, 0), one[1]);
                Check.eq("below 0, CLIP " + one[0], x.sample(0, 1), -one[1]);
            }
            x.holds(0, 20);
            x.sets(0, 0, 50);
            Check.eq("GAIN comes first", x.sample(0, 0), 16);
            x.sets(0, 0, 400);
            Check.eq("GAIN 400", x.sample(0, 1), -20);
        });
    }

    /** The first SOURCE is silent, so each call must hear the others as if it were not there. */
    private static void allSourcesAreHeard() {
        List<ToLongFunction<MicRow>> calls = List.of(
            x -> x.sample(1, 5), x -> x.turned(1, 3, 5), x -> x.beam(3, 5), x -> x.blocked(3, 0, 5), x -> x.clean(3, 5),
            x -> x.level(1), x -> x.beams(3), x -> x.weights(3), x -> x.loudest(0), x -> x.loudest(1), MicRow::pattern,
            x -> x.agree(0, 1, 3), MicRow::from, MicRow::doubtful, x -> x.tracks(5), x -> x.faults(3), x -> x.clipped(1),
            x -> x.without(0, 3), x -> x.worst(3), x -> x.best(2, 3), x -> x.nulled(3, 6), x -> x.behind(0, 1),
            x -> x.later(9), x -> x.settles(x.from() - 8), MicRow::learns, x -> x.sorts(9), x -> x.years(5, 4),
            x -> Check.day(x, "ls09"));
        MicRow silent = Check.with("00,03,07", "+0144");
        for (int i = 0; i < calls.size(); i++) {
            MicRow x = Check.with("00,03,07", "+62075134");
            MicRow y = Check.with("00,03,07", "+0144;+62075134");
            MicRow z = Check.with("00,03,07", "+0144;+0144;+0144;+62075134");
            for (MicRow one : List.of(x, y, z)) {
                one.sets(1, 0, 60);
                one.holds(0, 50);
            }
            long due = calls.get(i).applyAsLong(x);
            Check.eq("call " + i + " hears the second", calls.get(i).applyAsLong(y), due);
            Check.eq("call " + i + " hears the fourth", calls.get(i).applyAsLong(z), due);
            Check.row("call " + i + ", the second", y, told(x));
            Check.row("call " + i + ", the fourth", z, told(x));
            for (int m = 0; m < 3; m++) {
                Check.eq("EQUAL behind call " + i, y.mic(m, 3), x.mic(m, 3));
            }
            Check.eq("LIVE ones behind call " + i, y.count(2), x.count(2));
        }
        Check.eq("a silent one", silent.level(0), 0);
    }

    private static long[] told(MicRow x) {
        long[] all = new long[x.count(7)];
        for (int i = 0; i < all.length; i++) {
            all[i] = x.row(i);
        }
        return all;
    }

    private static MicRow windy() {
        MicRow x = Check.with("00,01,02,03,04,05", "");
        for (int m = 0; m < 6; m++) {
            x.sets(m, 1, 1);
        }
        return x;
    }

    private static void turned() {
        edge("TURNED to a direction b (-8 .. 8): of MIC m at t: x is 8 t and p times b, k, f as above:", () -> {
            MicRow x = Check.with("01,40", UP);
            int[][] due = {{8, 16}, {-8, 24}, {0, 8}, {1, (7 * 8 + 16) / 8}, {-1, (24 + 7 * 8) / 8}, {7, (8 + 7 * 16) / 8}};
            for (int[] one : due) {
                Check.eq("to " + one[0], x.turned(0, one[0], 0), one[1]);
            }
            Check.eq("40 to 8 at 200: 240", x.turned(1, 8, 200), 8);
            Check.eq("40 to -8 at -200: -240", x.turned(1, -8, -200), 8);
            Check.eq("40 to -8 at -199: -239", x.turned(1, -8, -199), 16);
            Check.none("to 9", () -> x.turned(0, 9, 0));
            Check.none("to -9", () -> x.turned(0, -9, 0));
        });
        edge("((8 - f) SAMPLE(k) + f SAMPLE(k + 1)) by 8, times EQUAL by 100.", () -> {
            MicRow x = Check.with("01", UP);
            x.sets(0, 0, 13);
            x.sets(0, 2, 200);
            // SAMPLES 1, 2, 3: (1 + 7 2) by 8 is 1
            Check.eq("cut ahead of EQUAL", x.turned(0, 7, 0), 2);
            Check.sources(x, "+01321");
            Check.eq("cut towards 0", x.turned(0, 7, 0), -2);
            x.sets(0, 2, 50);
            Check.eq("EQUAL is cut towards 0", x.turned(0, 7, 0), 0);
            x.sets(0, 2, 1);
            Check.eq("EQUAL 1", x.turned(0, 0, 2), 0);
            x.sets(0, 0, 400);
            Check.eq("EQUAL 1 of -96", x.turned(0, 0, 2), 0);
            x.sets(0, 2, 2);
            Check.eq("EQUAL 2 of -96", x.turned(0, 0, 2), -1);
        });
    }

    private static void beams() {
        edge("LIVE: MICS that are not OUT.", () -> {
            MicRow x = Check.with("00,01,02", FOURS);
            Check.eq("all", x.count(2), 7);
            x.sets(1, 4, 1);
            Check.eq("one is OUT", x.count(2), 5);
            x.sets(0, 3, 1);
            Check.eq("a DEAD one is LIVE", x.count(2), 5);
            Check.eq("a DEAD one counts", x.beam(0, 0), 16);
        });
        edge("BEAM to b at t: TURNED of all LIVE ones together, by how many they are (0 without).", () -> {
            MicRow x = Check.with("00,01,02", FOURS);
            Check.eq("32 by 3", x.beam(0, 0), 10);
            Check.eq("-32 by 3", x.beam(0, 1), -10);
            x.sets(2, 4, 1);
            Check.eq("-32 and 32 by 2", x.beam(0, 0), 0);
            x.sets(0, 4, 1);
            Check.eq("of one", x.beam(0, 0), 32);
            x.sets(1, 4, 1);
            Check.eq("without", x.beam(0, 0), 0);
            Check.eq("without MICS", Check.with("", FOURS).beam(0, 0), 0);
        });
        edge("BLOCKED j (0, 1, ..) to b at t: TURNED of LIVE one j (by numbers) less that of the next LIVE one.", () -> {
            MicRow x = Check.with("00,01,02,03", FOURS);
            // -32, 32, 32, -32
            Check.eq("0", x.blocked(0, 0, 0), -64);
            Check.eq("1", x.blocked(0, 1, 0), 0);
            Check.eq("2", x.blocked(0, 2, 0), 64);
            Check.none("3", () -> x.blocked(0, 3, 0));
            x.sets(1, 4, 1);
            x.sets(2, 4, 1);
            x.sets(3, 0, 50);
            Check.eq("over two that are OUT", x.blocked(0, 0, 0), -16);
            Check.none("none behind it", () -> x.blocked(0, 1, 0));
            x.sets(0, 4, 1);
            Check.none("one LIVE one has none", () -> x.blocked(0, 0, 0));
        });
    }

    private static MicRow loud() {
        MicRow x = Check.with("00,01,02,03,04,05", LOUD);
        for (int m = 0; m < 6; m++) {
            x.sets(m, 0, 400);
            x.sets(m, 2, 200);
        }
        x.holds(2, 48);
        return x;
    }

    private static void rows() {
        edge("LEVEL of a row of numbers over the SPAN: their sizes (without sign) together by LONG;", () -> {
            Check.eq("-4608 and 4608", loud().level(0), 4608);
            Check.eq("-9216 and 9216", loud().beams(0), 9216);
            MicRow x = Check.with("00", PULSE);
            x.holds(2, 13);
            Check.eq("64 by 13", x.level(0), 4);
            MicRow y = loud();
            y.level(0);
            y.beams(0);
            y.holds(2, 4);
            Check.eq("four of SAMPLES that were 48", y.level(0), 4608);
            Check.eq("four of BEAMS that were 48", y.beams(0), 9216);
            Check.row("four of CLEAN", y, 9216L * 9216L, 9216, 9216L * 9216L);
        });
        edge("POWER: their squares together by LONG.", () -> {
            MicRow x = loud();
            x.level(0);
            Check.eq("of SAMPLES", x.row(0), 4608L * 4608L);
            x.beams(0);
            Check.row("together they are more than an int holds", x, 9216L * 9216L, 9216, 9216L * 9216L);
            Check.eq("as an answer", x.without(0, 0), 9216L * 9216L);
            MicRow y = Check.with("00,01,02,03,04,05", "+31022;-890808;-890808;-890808");
            int[] gains = {400, 349, 400, 374, 400, 400};
            for (int m = 0; m < 6; m++) {
                y.sets(m, 0, gains[m]);
                y.sets(m, 2, 200);
            }
            y.holds(2, 4);
            y.nulled(0, 3);
            Check.eq("POWER itself is more than an int holds", y.row(0), 4386951730L);
        });
    }

    private static void weights() {
        edge("WEIGHTS of b: one for each BLOCKED,", () -> {
            MicRow x = Check.with("00,01,02,03,04,05", FOURS);
            for (int left = 5; left >= 0; left--) {
                Check.eq("LIVE ones less one", x.weights(0), left);
                Check.eq("numbers", x.count(7), left);
                x.sets(left, 4, 1);
            }
            Check.eq("none LIVE", x.weights(0), 0);
        });
        edge("-16 .. 16, learnt:", () -> {
            MicRow x = Check.with("00,01", "+0108");
            x.sets(1, 0, 96);
            // BEAM 31 and BLOCKED 2; then BEAM 29 and BLOCKED -1
            x.weights(0);
            Check.row("16 at most", x, 16);
            x.sets(0, 0, 92);
            x.weights(0);
            Check.row("-16 at least", x, -16);
        });
        edge("at first all 0;", () -> {
            MicRow x = Check.with("00,01,02", "");
            x.weights(0);
            Check.row("nothing is heard", x, 0, 0);
            MicRow y = Check.with("00,01,02", "+0108");
            y.weights(0);
            Check.row("nothing is blocked", y, 0, 0);
        });
        edge("three times over,", () -> {
            MicRow x = Check.with("00,01,03", "+014130034;-328201");
            // By one round 3 and 2, by two 0 and 4, by four -10 and 10
            x.weights(0);
            Check.row("three rounds", x, -5, 8);
        });
        edge("of j = 0, 1, .. in order: that weight (the others as they are) by which POWER of CLEAN is least,", () -> {
            MicRow x = Check.with("01,03,07", "+0262");
            x.sets(0, 0, 35);
            x.sets(2, 0, 57);
            x.holds(2, 4);
            // BEAM 20, BLOCKED -21 and 14 in turns with their opposites; the second first: -5, 16; both at once: -15, 16
            x.weights(0);
            Check.row("the first first", x, -15, 1);
        });
        edge("CLEAN to b at t: BEAM less (all WEIGHTS times BLOCKED together, by 16).", () -> {
            MicRow x = Check.with("00,01,03", "+014130034;-328201");
            for (int t = -8; t < 8; t++) {
                int taken = -5 * x.blocked(0, 0, t) + 8 * x.blocked(0, 1, t);
                Check.eq("at " + t, x.clean(0, t), x.beam(0, t) - taken / 16);
            }
            x.sets(1, 4, 1);
            x.sets(2, 4, 1);
            Check.eq("of one LIVE one", x.clean(0, 3), x.sample(0, 3));
            x.sets(0, 4, 1);
            Check.eq("without", x.clean(0, 3), 0);
        });
    }

    private static void weightsOfEqualPower() {
        edge("by which POWER of CLEAN is least, of equal ones the one of the least size, then the one above 0.", () -> {
            MicRow x = Check.with("00,01,02,03,04,05", "+0108");
            for (int m = 1; m < 6; m++) {
                x.sets(m, 3, 1);
            }
            // BEAM -5, 5 and BLOCKED 0 -32, 32: 2 leaves 1, 3 takes 1 too much
            x.weights(0);
            Check.row("of 2 and 3 the least size", x, 2, 0, 0, 0, 0);
            MicRow y = Check.with("01,03,06", "+3327;-3176");
            y.sets(1, 0, 4);
            y.sets(2, 0, 21);
            y.holds(2, 4);
            // BEAM 6, 19 and BLOCKED 16, 46 and 2, -12: behind 7, 1 and -1 leave 1 at two of four (POWER 0), 0 leaves 1 at all
            y.weights(0);
            Check.row("of 1 and -1 the one above 0", y, 7, 1);
            MicRow z = Check.with("00,01", PULSE);
            z.sets(1, 3, 1);
            z.sets(0, 0, 7);
            // BEAM is 1 at 0 and 12 and else 0: squares together are 2 of 16
            z.weights(0);
            Check.row("POWER is 0 by 0 already", z, 0);
            MicRow later = three("00,01,02", "+61223", 18, 56, 100);
            // BEAM -6, -7, -8, -6: the first is -16 at first; then the second is -5, by which -15 is as good
            later.weights(0);
            Check.row("in later rounds, too", later, -15, -5);
            MicRow cut = three("00,03,06", "+71704", 49, 8, 100);
            cut.weights(0);
            Check.row("POWERS that are cut are compared", cut, 5, -6);
        });
    }

    private static MicRow three(String mics, String sources, int... gains) {
        MicRow x = Check.with(mics, sources);
        for (int m = 0; m < gains.length; m++) {
            x.sets(m, 0, gains[m]);
        }
        x.holds(2, 4);
        return x;
    }

    private static void signs() {
        edge("AGREE of two MICS for b: in how many SAMPLES of the SPAN TURNED of both have the same sign"
            + " (both above 0, both below, both 0).", () -> {
            MicRow x = Check.with("00,08", "+210088");
            Check.eq("above with above, below with below", x.agree(0, 1, 2), 16);
            Check.eq("above with below", x.agree(0, 1, 0), 0);
            Check.sources(x, "+210484");
            Check.eq("0 with 0, above with below", x.agree(0, 1, 0), 8);
            x.sets(1, 3, 1);
            Check.eq("0 with 0, 0 with above and below", x.agree(0, 1, 0), 8);
            x.holds(2, 5);
            Check.eq("0 at 1 and 3 of five", x.agree(0, 1, 0), 2);
            x.sets(0, 3, 1);
            Check.eq("0 always", x.agree(0, 1, 0), 5);
        });
        edge("FROM: the b of the most AGREE over all pairs of LIVE ones together; of equal ones the one of the least size,"
            + " then the one above 0.", () -> {
            MicRow x = Check.with("00,08", "+210088");
            Check.eq("of 2, -2, 6, -6", x.from(), 8 + 2);
            x.aims(0, 0, 3);
            Check.eq("of 3, -1, 7, -5", x.from(), 8 - 1);
            x.aims(0, 0, 4);
            Check.eq("of 4, 0, 8, -4, -8", x.from(), 8);
            Check.mics(x, "00,04,08");
            Check.sources(x, "-81880080008808");
            Check.eq("-8", x.from(), 0);
            Check.row("three pairs of 16", x, 48, 3);
            x.aims(0, 0, 8);
            Check.eq("8", x.from(), 16);
            Check.mics(x, "00,08");
            Check.sources(x, "+810484;-810484");
            x.sets(0, 3, 1);
            Check.eq("all equal", x.from(), 8);
            MicRow y = Check.with("00,08", "+210088");
            for (int many : new int[] {48, 4, 47, 5}) {
                y.holds(2, many);
                Check.eq("of " + many, y.from(), 10);
                Check.row("of " + many, y, many, 1);
            }
            MicRow z = Check.with("00,08", "+0188");
            z.sets(1, 3, 1);
            Check.eq("never the same sign", z.from(), 8);
            Check.row("never the same sign", z, 0, 1);
        });
    }

    private static void faults() {
        edge("By what is HEARD over the SPAN: QUIET: all SAMPLES of a MIC are 0.", () -> {
            MicRow x = Check.with("00", PULSE);
            x.holds(2, 11);
            Check.eq("0 .. 10", x.faults(0), 0);
            x.holds(1, 1);
            Check.eq("1 .. 11: 0 and 12 are not in the SPAN", x.faults(0), 1);
            x.holds(1, 2);
            Check.eq("2 .. 12", x.faults(0), 0);
            x.sets(0, 0, 3);
            Check.eq("96 by 100 is 0", x.faults(0), 1);
            x.sets(0, 0, 4);
            Check.eq("128 by 100 is 1", x.faults(0), 0);
        });
        edge("CLIPPED: how many are CLIP or -CLIP.", () -> {
            MicRow x = Check.with("00", "+01085");
            // -32, 32, 8
            x.holds(2, 6);
            int[][] due = {{33, 0}, {32, 4}, {31, 4}, {9, 4}, {8, 6}, {1, 6}};
            for (int[] one : due) {
                x.holds(0, one[0]);
                Check.eq("CLIP " + one[0], x.clipped(0), one[1]);
            }
            x.sets(0, 3, 1);
            Check.eq("0 is not CLIPPED", x.clipped(0), 0);
        });
        edge("ROUGH: how often the sign of two SAMPLES one behind another is unlike (as AGREE tells signs; both in the SPAN).", () -> {
            MicRow x = Check.with("00", "+014484");
            // 0, 0, 32, 0
            x.holds(2, 4);
            x.clipped(0);
            Check.row("0 to 32 and back", x, 2, 0);
            x.holds(1, 2);
            x.clipped(0);
            Check.row("32, 0, 0, 0: neither the one ahead nor the one behind", x, 1, 0);
            Check.sources(x, "+01080");
            x.holds(1, 0);
            x.clipped(0);
            Check.row("-32, 32, -32, -32", x, 2, 0);
            Check.sources(x, "+018776");
            x.clipped(0);
            Check.row("always above", x, 0, 0);
        });
    }

    /** The order of the interface is seen in the source alone. */
    private static void interfaceOrder() {
        String source = source();
        String[][] parts = {
            {"texts", "sign", "end", "mics", "sources", "sheet"},
            {"what there is", "mic", "source", "sample", "turned", "beam", "blocked", "clean"},
            {"over the SPAN", "level", "beams", "weights", "loudest", "pattern", "agree", "from", "doubtful", "tracks",
                "strongest", "faults", "clipped"},
            {"what would be", "without", "worst", "best", "masks", "nulled", "behind", "later", "settles"},
            {"changes", "sets", "holds", "moves", "learns", "sorts", "aims", "goes", "day", "undo", "years"},
            {"kept", "keep", "again", "count", "row"}};
        for (String[] part : parts) {
            String calls = "`" + String.join("`, `", List.of(part).subList(1, part.length)) + "`";
            edge("Ahead of the calls " + calls + " the interface says: ---- " + part[0] + ".", () -> {
                int at = source.indexOf("// ---- " + part[0] + "\n");
                Check.yes("it is there", at > 0);
                for (int i = 1; i < part.length; i++) {
                    int next = source.indexOf(" " + part[i] + "(", source.indexOf("public", at));
                    Check.yes(part[i] + " comes behind", next > at);
                    at = next;
                }
            });
        }
    }

    private static String source() {
        try {
            return java.nio.file.Files.readString(java.nio.file.Path.of("src/main/java/MicRow.java"));
        } catch (java.io.IOException e) {
            return "";
        }
    }
}
