/** Promises 14 to 25: over the SPAN. */
final class EdgesOfSpan {
    private static final int LEAST = Integer.MIN_VALUE;
    private static final int MOST = Integer.MAX_VALUE;
    private static final int[] NO_DIRECTION = {-9, 9, LEAST, MOST};
    private static final int[] NO_MIC = {-1, 4, LEAST, MOST};
    /** MIC 1 hears what MIC 0 heard two SAMPLES ago, -32, -32, 32, 32 in turns: to 2, -2, 6, -6 both are the same. */
    private static final String TWO = "00,08";
    private static final String FOURS = "+210088";

    private EdgesOfSpan() {
    }

    static void all() {
        level();
        beams();
        weights();
        loudest();
        pattern();
        agree();
        from();
        doubtful();
        tracks();
        tracksRefused();
        strongest();
        strongestOfEqualOnes();
        faults();
        clipped();
    }

    private static void level() {
        Edges.edge(14, "LEVEL of a MIC's SAMPLES;", () -> {
            MicRow x = Check.with("00,01", "+0144408");
            x.holds(1, 5);
            x.holds(2, 4);
            Check.eq("0, 0, 0, -32", x.level(0), 8);
            x.holds(2, 5);
            Check.eq("0, 0, 0, -32, 32", x.level(0), 12);
            x.sets(0, 2, 1);
            x.sets(0, 4, 1);
            Check.eq("EQUAL does not count, OUT neither", x.level(0), 12);
            x.sets(0, 3, 1);
            Check.eq("DEAD", x.level(0), 0);
        });
        Edges.edge(14, "the ROW: POWER, the greatest size, the first SAMPLE of the SPAN (its t) that has it.", () -> {
            MicRow x = Check.with("00", "+0144408");
            x.holds(1, 5);
            x.holds(2, 10);
            x.level(0);
            Check.row("the first of -32, 32, -32, 32", x, 409, 32, 8);
            x.holds(1, 9);
            x.level(0);
            Check.row("the first of 32, -32, 32, -32", x, 409, 32, 9);
            x.holds(1, 10);
            x.holds(2, 4);
            x.level(0);
            Check.row("it is the last of the SPAN", x, 256, 32, 13);
            Check.sources(x, "+015786");
            x.holds(1, 11);
            x.level(0);
            Check.row("16, 8, 24, 32", x, 480, 32, 14);
            x.sets(0, 3, 1);
            x.level(0);
            Check.row("all are 0: the first", x, 0, 0, 11);
        });
        Edges.edge(14, "NONE: none such.", () -> {
            for (int m : NO_MIC) {
                Twins.stays("level(" + m + ")", Twins::rich, -1, x -> x.level(m));
            }
            Twins.stays("of no MICS", MicRow::new, -1, x -> x.level(0));
        });
    }

    private static void beams() {
        Edges.edge(15, "LEVEL of BEAM to b;", () -> {
            MicRow x = Check.with("00,01", "+810088");
            x.sets(1, 0, 50);
            Check.eq("to 0: -8, -24, 8, 24", x.beams(0), 16);
            Check.eq("to 8: -24, -24, 24, 24", x.beams(8), 24);
            Check.eq("to -8: -8, -8, 8, 8", x.beams(-8), 8);
            Check.eq("none LIVE", Twins.noneLive().beams(0), 0);
        });
        Edges.edge(15, "the ROW: POWER, LEVEL of CLEAN, POWER of CLEAN.", () -> {
            MicRow x = Check.with("00,01", "+810088");
            x.sets(1, 0, 50);
            x.beams(0);
            Check.row("to 0: 7, -19, -7, 19 by weight 5", x, 320, 13, 205);
            MicRow y = Twins.noneLive();
            y.beams(0);
            Check.row("none LIVE", y, 0, 0, 0);
            x.sets(0, 4, 1);
            x.beams(0);
            Check.row("one LIVE one", x, 256, 16, 256);
        });
        Edges.edge(15, "NONE: another b.", () -> {
            for (int b : NO_DIRECTION) {
                Twins.stays("beams(" + b + ")", Twins::rich, -1, x -> x.beams(b));
            }
        });
    }

    private static void weights() {
        Edges.edge(16, "WEIGHTS of b: how many;", () -> {
            Check.eq("three LIVE ones", Twins.rich().weights(0), 2);
            Check.eq("one LIVE one", Twins.oneLive().weights(0), 0);
            Check.eq("none LIVE", Twins.noneLive().weights(0), 0);
            Check.eq("no MICS", new MicRow().weights(-8), 0);
        });
        Edges.edge(16, "the ROW: they.", () -> {
            MicRow x = Check.with("00,01", "+810088");
            x.sets(1, 0, 50);
            x.weights(0);
            Check.row("one", x, 5);
            x.sets(0, 4, 1);
            x.weights(0);
            Check.row("none", x);
        });
        Edges.edge(16, "NONE: another b.", () -> {
            for (int b : NO_DIRECTION) {
                Twins.stays("weights(" + b + ")", Twins::rich, -1, x -> x.weights(b));
            }
        });
    }

    private static void loudest() {
        Edges.edge(17, "The b to which POWER of BEAM is most (what 0), of CLEAN (1);", () -> {
            MicRow x = Check.with("00,04", "-81880080008808");
            Check.eq("BEAM: -8", x.loudest(0), 0);
            Check.eq("CLEAN: -8", x.loudest(1), 0);
            x.aims(0, 0, 8);
            Check.eq("BEAM: 8", x.loudest(0), 16);
            Check.eq("CLEAN: 8", x.loudest(1), 16);
            x.sets(1, 3, 1);
            Check.eq("one is DEAD", x.loudest(0), 8);
            Check.row("half of it", x, 256);
            Check.eq("CLEAN of it", x.loudest(1), 8);
            Check.row("all is taken off", x, 0);
        });
        Edges.edge(17, "of equal ones the one of the least size, then the one above 0: 8 more than it;", () -> {
            MicRow x = Check.with(TWO, FOURS);
            for (int what = 0; what < 2; what++) {
                x.aims(0, 0, 2);
                Check.eq("of 2, -2, 6, -6", x.loudest(what), 10);
                x.aims(0, 0, 3);
                Check.eq("of 3, -1, 7, -5", x.loudest(what), 7);
                x.aims(0, 0, 4);
                Check.eq("of 0, 4, -4, 8, -8", x.loudest(what), 8);
            }
            Check.sources(x, "");
            Check.eq("nothing is heard", x.loudest(0), 8);
        });
        Edges.edge(17, "The b", () -> {
            MicRow x = Check.with("01,05,09", "-32465");
            x.sets(0, 0, 22);
            x.sets(1, 0, 27);
            x.holds(2, 4);
            x.loudest(0);
            Check.row("to 9 it would be 73", x, 65);
            MicRow y = Check.with("01,05,09", "+33500;+01301");
            y.holds(2, 4);
            y.loudest(0);
            Check.row("to -9 it would be 8037", y, 6826);
        });
        Edges.edge(17, "the ROW: POWER.", () -> {
            MicRow x = Check.with(TWO, FOURS);
            x.loudest(0);
            Check.row("BEAM", x, 1024);
            x.sets(1, 3, 1);
            x.loudest(1);
            Check.row("CLEAN", x, 0);
        });
        Edges.edge(17, "-2: no MIC is LIVE;", () -> {
            for (int what = 0; what < 2; what++) {
                int w = what;
                Twins.stays("loudest(" + w + ")", Twins::noneLive, -2, x -> x.loudest(w));
                Twins.stays("of no MICS", MicRow::new, -2, x -> x.loudest(w));
                Check.yes("one LIVE one", Twins.oneLive().loudest(w) >= 0);
            }
        });
        Edges.edge(17, "NONE: another what.", () -> {
            for (int what : new int[] {-1, 2, LEAST, MOST}) {
                Twins.stays("loudest(" + what + ")", Twins::rich, -1, x -> x.loudest(what));
                Twins.stays("it comes first", Twins::noneLive, -1, x -> x.loudest(what));
            }
        });
    }

    private static void pattern() {
        Edges.edge(18, "LEVELS of BEAMS to -8, .., 8, one behind another in the ROW:", () -> {
            MicRow x = Check.with(TWO, FOURS);
            x.pattern();
            Check.row("from 2", x, 0, 16, 32, 16, 0, 16, 32, 16, 0, 16, 32, 16, 0, 16, 32, 16, 0);
            x.aims(0, 0, 1);
            x.pattern();
            Check.row("from 1", x, 16, 32, 16, 0, 16, 32, 16, 0, 16, 32, 16, 0, 16, 32, 16, 0, 16);
        });
        Edges.edge(18, "the least b of the least: 8 more than it.", () -> {
            MicRow x = Check.with(TWO, FOURS);
            Check.eq("of -8, -4, 0, 4, 8", x.pattern(), 0);
            x.aims(0, 0, 1);
            Check.eq("of -5, -1, 3, 7", x.pattern(), 3);
            x.sets(0, 4, 1);
            Check.eq("all are equal", x.pattern(), 0);
            MicRow y = Check.with("01", "+01844444444444");
            y.holds(2, 4);
            Check.eq("to 8 alone SAMPLE 0 is not heard", y.pattern(), 16);
            Check.eq("to 8", y.row(16), 0);
            Check.eq("to 7: 4 by 4", y.row(15), 1);
            MicRow z = Check.with("01,04,06", "-73406");
            z.sets(0, 0, 25);
            z.sets(1, 0, 2);
            z.holds(2, 4);
            Check.eq("5; to 9 it would be less", z.pattern(), 13);
            Check.eq("6 is not 0", z.row(13), 6);
        });
        Edges.edge(18, "-2: no MIC is LIVE.", () -> {
            Twins.stays("none LIVE", Twins::noneLive, -2, MicRow::pattern);
            Twins.stays("no MICS", MicRow::new, -2, MicRow::pattern);
            Check.yes("one LIVE one", Twins.oneLive().pattern() >= 0);
        });
    }

    private static void agree() {
        Edges.edge(19, "AGREE of two MICS for b;", () -> {
            MicRow x = Check.with(TWO, FOURS);
            Check.eq("all", x.agree(0, 1, 2), 16);
            Check.eq("the other way round", x.agree(1, 0, 2), 16);
            Check.eq("half", x.agree(0, 1, 1), 8);
            Check.eq("none", x.agree(0, 1, -8), 0);
            x.sets(0, 4, 1);
            x.sets(1, 4, 1);
            Check.eq("OUT ones too", x.agree(0, 1, -6), 16);
            MicRow y = Check.with("00,01,02,03,04,40", "+810088");
            Check.eq("the last two: 36 SAMPLES", y.agree(4, 5, 0), 16);
            y.moves(5, 38);
            Check.eq("the last two: 34 SAMPLES", y.agree(5, 4, 0), 0);
            Check.eq("the last one turned", y.turned(5, 8, 2), 32);
            Check.eq("the last one as it is: w(-36)", y.turned(5, 0, 2), -32);
        });
        Edges.edge(19, "the ROW: LONG.", () -> {
            MicRow x = Check.with(TWO, FOURS);
            for (int many : new int[] {4, 17, 48}) {
                x.holds(2, many);
                Check.eq("of " + many, x.agree(0, 1, 2), many);
                Check.row("of " + many, x, many);
            }
        });
        Edges.edge(19, "NONE: none such, both are one, another b.", () -> {
            for (int m : NO_MIC) {
                Twins.stays("one " + m, Twins::rich, -1, x -> x.agree(m, 1, 0));
                Twins.stays("other " + m, Twins::rich, -1, x -> x.agree(1, m, 0));
                Twins.stays("both " + m, Twins::rich, -1, x -> x.agree(m, m, 0));
            }
            Twins.stays("both are 0", Twins::rich, -1, x -> x.agree(0, 0, 0));
            Twins.stays("both are 3", Twins::rich, -1, x -> x.agree(3, 3, 0));
            for (int b : NO_DIRECTION) {
                Twins.stays("b " + b, Twins::rich, -1, x -> x.agree(0, 1, b));
            }
        });
    }

    private static void from() {
        Edges.edge(20, "FROM: 8 more than it;", () -> {
            MicRow x = Check.with("00,04", "-81880080008808");
            Check.eq("-8", x.from(), 0);
            x.aims(0, 0, 8);
            Check.eq("8", x.from(), 16);
            Check.sources(x, "");
            Check.eq("nothing is heard", x.from(), 8);
        });
        Edges.edge(20, "the ROW: AGREE of all pairs, how many pairs.", () -> {
            MicRow x = Check.with("00,08,16,24,32,40", FOURS);
            for (int live = 6; live >= 2; live--) {
                int pairs = live * (live - 1) / 2;
                Check.eq("2", x.from(), 10);
                Check.row("of " + live, x, 16 * pairs, pairs);
                x.sets(live - 1, 4, 1);
            }
        });
        Edges.edge(20, "-2: less than two MICS are LIVE.", () -> {
            Twins.stays("one", Twins::oneLive, -2, MicRow::from);
            Twins.stays("none", Twins::noneLive, -2, MicRow::from);
            Twins.stays("no MICS", MicRow::new, -2, MicRow::from);
            Check.eq("two can", Check.with(TWO, FOURS).from(), 10);
        });
    }

    private static void doubtful() {
        Edges.edge(21, "All b by which AGREE over all pairs of LIVE MICS is as much as by FROM: how many;", () -> {
            MicRow x = Check.with(TWO, FOURS);
            Check.eq("2, -2, 6, -6", x.doubtful(), 4);
            Check.sources(x, "");
            Check.eq("all", x.doubtful(), 17);
            Check.eq("-8 alone", Check.with("00,04", "-81880080008808").doubtful(), 1);
            MicRow y = Check.with(TWO, "+0188");
            y.sets(1, 3, 1);
            Check.eq("never the same sign: all, not more", y.doubtful(), 17);
        });
        Edges.edge(21, "the ROW: of each, the least first, 8 more than it.", () -> {
            MicRow x = Check.with(TWO, FOURS);
            x.aims(0, 0, 0);
            x.doubtful();
            Check.row("from end to end", x, 0, 4, 8, 12, 16);
            Check.sources(x, "");
            x.doubtful();
            Check.row("all", x, 0, 1, 2, 3, 4, 5, 6, 7, 8, 9, 10, 11, 12, 13, 14, 15, 16);
        });
        Edges.edge(21, "-2: less than two MICS are LIVE.", () -> {
            Twins.stays("one", Twins::oneLive, -2, MicRow::doubtful);
            Twins.stays("none", Twins::noneLive, -2, MicRow::doubtful);
            Twins.stays("no MICS", MicRow::new, -2, MicRow::doubtful);
        });
    }

    static MicRow windy(String sources) {
        MicRow x = Check.with("00,02,05", sources);
        for (int m = 0; m < 3; m++) {
            x.sets(m, 1, 1);
        }
        return x;
    }

    private static void tracks() {
        Edges.edge(22, "FROM over n (1 .. 12) SPANS, the first as it is, each other one by LONG later:", () -> {
            MicRow x = windy("+1163835");
            x.holds(2, 6);
            x.holds(1, 6);
            x.tracks(4);
            Check.row("four SPANS", x, 9, 15, 8, 8);
            x.tracks(12);
            Check.eq("twelve SPANS", x.count(7), 12);
            long[] told = new long[12];
            for (int i = 0; i < 12; i++) {
                told[i] = x.row(i);
            }
            for (int i = 0; i < 12; i++) {
                x.holds(1, 6 + 6 * i);
                Check.eq("SPAN " + i, x.from(), told[i]);
            }
        });
        Edges.edge(22, "in how many of them it is another one than in the one ahead;", () -> {
            MicRow x = windy("+1163835");
            x.holds(2, 6);
            // 4, 9, 15, 8, 8
            int[] due = {0, 1, 2, 3, 3};
            for (int n = 1; n <= 5; n++) {
                Check.eq("of " + n, x.tracks(n), due[n - 1]);
            }
            Check.eq("always the same", Check.with(TWO, FOURS).tracks(12), 0);
        });
        Edges.edge(22, "the ROW: of each 8 more than it.", () -> {
            MicRow x = windy("+1163835");
            x.holds(2, 6);
            x.tracks(1);
            Check.row("of one", x, 4);
            x.tracks(5);
            Check.row("of five", x, 4, 9, 15, 8, 8);
        });
    }

    private static void tracksRefused() {
        Edges.edge(22, "-2: less than two MICS are LIVE;", () -> {
            Twins.stays("one", Twins::oneLive, -2, x -> x.tracks(1));
            Twins.stays("none", Twins::noneLive, -2, x -> x.tracks(12));
            Twins.stays("no MICS", MicRow::new, -2, x -> x.tracks(1));
        });
        Edges.edge(22, "NONE: another n,", () -> {
            for (int n : new int[] {0, 13, -1, LEAST, MOST}) {
                Twins.stays("tracks(" + n + ")", Twins::rich, -1, x -> x.tracks(n));
                Twins.stays("it comes first", Twins::oneLive, -1, x -> x.tracks(n));
            }
        });
        Edges.edge(22, "the last one would begin above 200.", () -> {
            MicRow x = Twins.rich();
            x.holds(1, 101);
            Check.yes("101 and 11 times 9 are 200", x.tracks(12) >= 0);
            x.holds(1, 200);
            Check.yes("200", x.tracks(1) >= 0);
            Twins.stays("201", EdgesOfSpan::from102, -1, y -> y.tracks(12));
            Check.yes("192", from102().tracks(11) >= 0);
            Twins.stays("far behind", EdgesOfSpan::from200, -1, y -> y.tracks(2));
        });
    }

    private static MicRow from102() {
        MicRow x = Twins.rich();
        x.holds(1, 102);
        return x;
    }

    private static MicRow from200() {
        MicRow x = Twins.rich();
        x.holds(1, 200);
        x.holds(2, 48);
        return x;
    }

    private static void strongest() {
        Edges.edge(23, "The SOURCE that would, alone, have the greatest POWER of SAMPLES of a MIC over the SPAN", () -> {
            MicRow x = Check.with("00,01", "+0108;+0308;+0208");
            Check.eq("the loudest", x.strongest(0), 1);
            Check.eq("of MIC 1", x.strongest(1), 1);
            x.aims(2, 1, 9);
            Check.eq("the last", x.strongest(1), 2);
            x.sets(1, 4, 1);
            Check.eq("of one that is OUT", x.strongest(1), 2);
            Check.sources(x, "+0188;+09844444444444");
            x.holds(2, 11);
            x.holds(1, 1);
            Check.eq("over the SPAN the other one is not heard", x.strongest(0), 0);
            MicRow y = Check.with("00", "+0184");
            y.sets(0, 1, 1);
            y.holds(2, 4);
            // GUST is -64 at 0: without SOURCES it would be more, but none is no SOURCE
            Check.eq("GUST at 0", y.sample(0, 0), -64 + 32);
            Check.eq("the only one", y.strongest(0), 0);
            Check.eq("as it is", y.row(0), y.row(1));
        });
        Edges.edge(23, "(all else as it is;", () -> {
            MicRow x = Check.with("00,01", "+0108;+0308");
            x.sets(1, 1, 1);
            x.holds(2, 4);
            long alone = 0;
            for (int t = 0; t < 4; t++) {
                long gust = ((t + 300) * (t + 300) * 7 + 2 * (t + 311) * 13) % 1009 % 17 * 8 - 64;
                long v = gust + (t % 2 == 0 ? -96 : 96);
                alone += v * v;
            }
            Check.eq("with WIND", x.strongest(1), 1);
            Check.eq("with WIND", x.row(0), alone / 4);
            x.holds(0, 50);
            x.sets(0, 0, 200);
            Check.eq("CLIP 50, GAIN 200", x.strongest(0), 0);
            Check.row("both are clipped", x, 2500, 2500);
        });
    }

    private static void strongestOfEqualOnes() {
        Edges.edge(23, "of equal ones the first): it;", () -> {
            MicRow x = Check.with("00", "+0108;+0380;+0308;-0308");
            Check.eq("of 1, 2 and 3", x.strongest(0), 1);
            x.holds(0, 30);
            Check.eq("all are clipped", x.strongest(0), 0);
            x.sets(0, 3, 1);
            Check.eq("of a DEAD one", x.strongest(0), 0);
        });
        Edges.edge(23, "the ROW: that POWER, that of all together.", () -> {
            MicRow x = Check.with("00", "+0108;+0308;+0380");
            x.strongest(0);
            Check.row("96, and 32", x, 96 * 96, 32 * 32);
            x.sets(0, 3, 1);
            x.strongest(0);
            Check.row("of a DEAD one", x, 0, 0);
        });
        Edges.edge(23, "-2: there are no SOURCES;", () -> {
            Twins.stays("none", Twins::noSources, -2, x -> x.strongest(0));
            Twins.stays("none, of one that is OUT", Twins::noSources, -2, x -> x.strongest(1));
        });
        Edges.edge(23, "NONE: no such MIC.", () -> {
            for (int m : NO_MIC) {
                Twins.stays("strongest(" + m + ")", Twins::rich, -1, x -> x.strongest(m));
                Twins.stays("it comes first", Twins::noSources, -1, x -> x.strongest(m));
            }
        });
    }

    /** Heard: -32, 0, 32, 32 by MIC 0, half of it by MIC 1, nothing by MIC 2; 32 is CLIP. */
    private static MicRow faulty() {
        MicRow x = Check.with("00,01,02", "+010488");
        x.holds(0, 32);
        x.sets(1, 0, 50);
        x.sets(2, 3, 1);
        return x;
    }

    private static void faults() {
        Edges.edge(24, "QUIET MICS (bits);", () -> {
            MicRow x = faulty();
            Check.eq("the DEAD one", x.faults(1), 4);
            x.sets(0, 0, 3);
            Check.eq("so low that all are 0", x.faults(48), 5);
            x.sets(0, 4, 1);
            Check.eq("OUT ones too", x.faults(0), 5);
            Check.eq("no MICS", new MicRow().faults(0), 0);
        });
        Edges.edge(24, "the ROW: those of which at least n (0 .. 48) SAMPLES are CLIPPED (bits),", () -> {
            MicRow x = faulty();
            int[][] due = {{0, 7}, {1, 1}, {11, 1}, {12, 1}, {13, 0}, {48, 0}};
            for (int[] one : due) {
                x.faults(one[0]);
                Check.eq("faults(" + one[0] + ")", x.row(0), one[1]);
            }
            x.holds(2, 48);
            Check.sources(x, "+0188");
            x.faults(48);
            Check.row("48 of 48", x, 1, 0);
        });
        Edges.edge(24, "those that are ROUGH at least n times (bits).", () -> {
            MicRow x = faulty();
            int[][] due = {{0, 7}, {1, 3}, {11, 3}, {12, 0}, {48, 0}};
            for (int[] one : due) {
                x.faults(one[0]);
                Check.eq("faults(" + one[0] + ")", x.row(1), one[1]);
            }
            x.holds(2, 48);
            Check.sources(x, "+0108");
            x.faults(47);
            Check.eq("47 times", x.row(1), 3);
            x.faults(48);
            Check.eq("48 times", x.row(1), 0);
        });
        Edges.edge(24, "NONE: another n.", () -> {
            for (int n : new int[] {-1, 49, LEAST, MOST}) {
                Twins.stays("faults(" + n + ")", Twins::rich, -1, x -> x.faults(n));
            }
        });
    }

    private static void clipped() {
        Edges.edge(25, "Of a MIC: how many SAMPLES are CLIPPED;", () -> {
            MicRow x = faulty();
            Check.eq("on both sides", x.clipped(0), 12);
            Check.eq("none", x.clipped(1), 0);
            Check.eq("of a DEAD one", x.clipped(2), 0);
            x.sets(0, 4, 1);
            Check.eq("of one that is OUT", x.clipped(0), 12);
            x.holds(2, 48);
            x.holds(0, 1);
            Check.eq("all but the 0", x.clipped(0), 36);
        });
        Edges.edge(25, "the ROW: how often it is ROUGH, 1 if it is QUIET, else 0.", () -> {
            MicRow x = faulty();
            x.clipped(0);
            Check.row("-32, 0, 32, 32", x, 11, 0);
            x.clipped(2);
            Check.row("QUIET", x, 0, 1);
            x.holds(1, 1);
            x.holds(2, 4);
            x.clipped(0);
            Check.row("0, 32, 32, -32", x, 2, 0);
        });
        Edges.edge(25, "NONE: none such.", () -> {
            for (int m : NO_MIC) {
                Twins.stays("clipped(" + m + ")", Twins::rich, -1, x -> x.clipped(m));
            }
        });
    }
}
