/** Promises 7 to 13: what there is. */
final class EdgesOfThereIs {
    private static final int LEAST = Integer.MIN_VALUE;
    private static final int MOST = Integer.MAX_VALUE;
    /** Numbers that are no direction. */
    private static final int[] NO_DIRECTION = {-9, 9, LEAST, MOST};
    /** Times to which no beam is turned. */
    private static final int[] NO_TIME = {-201, 201, LEAST, MOST};
    /** Heard at PLACE 0: -32, -32, 32, 32 in turns; at PLACE 1 a SAMPLE later. */
    private static final String FOURS = "+810088";

    private EdgesOfThereIs() {
    }

    static void all() {
        mic();
        source();
        sample();
        turned();
        beam();
        blocked();
        clean();
    }

    private static void mic() {
        Edges.edge(7, "Of MIC m, what 0: PLACE, 1: GAIN, 2: WIND, 3: EQUAL, 4: 1 if it is DEAD, else 0, 5: 1 if it is OUT, else 0.", () -> {
            MicRow x = Twins.rich();
            long[][] due = {{2, 150, 0, 100, 0, 0}, {5, 100, 3, 100, 0, 1}, {11, 100, 0, 60, 0, 0}, {18, 100, 0, 100, 1, 0}};
            for (int m = 0; m < 4; m++) {
                for (int what = 0; what < 6; what++) {
                    Check.eq("mic(" + m + ", " + what + ")", x.mic(m, what), due[m][what]);
                }
            }
        });
        Edges.edge(7, "NoSuchElementException: none such, another what.", () -> {
            for (int m : new int[] {-1, 4, 5, 6, LEAST, MOST}) {
                Twins.none("MIC " + m, Twins::rich, x -> x.mic(m, 0));
            }
            for (int what : new int[] {-1, 6, LEAST, MOST}) {
                Twins.none("what " + what, Twins::rich, x -> x.mic(0, what));
            }
            Twins.none("of no MICS", MicRow::new, x -> x.mic(0, 0));
        });
    }

    private static void source() {
        Edges.edge(8, "Of SOURCE s, what 0: DIRECTION, 1: LOUD, 2: how many steps, 3 on: step what - 3.", () -> {
            MicRow x = Check.with("", "-71086;+2901234567801");
            long[][] due = {{-7, 1, 3, -4, 4, 2}, {2, 9, 10, -4, -3, -2, -1, 0, 1, 2, 3, 4, -4}};
            Check.eq("ten steps", Check.sources(x, "-71086;+290123456780"), 2);
            for (int s = 0; s < 2; s++) {
                for (int what = 0; what < due[s].length; what++) {
                    Check.eq("source(" + s + ", " + what + ")", x.source(s, what), due[s][what]);
                }
            }
        });
        Edges.edge(8, "NoSuchElementException: none such, another what.", () -> {
            for (int s : new int[] {-1, 2, 3, 4, LEAST, MOST}) {
                Twins.none("SOURCE " + s, Twins::rich, x -> x.source(s, 0));
            }
            for (int what : new int[] {-1, 8, 14, 15, LEAST, MOST}) {
                Twins.none("what " + what + " of five steps", Twins::rich, x -> x.source(0, what));
            }
            Check.eq("the last of five", Twins.rich().source(0, 7), -3);
            Twins.none("what 5 of two steps", Twins::rich, x -> x.source(1, 5));
            Twins.none("what 15 of twelve steps", EdgesOfThereIs::twelve, x -> x.source(0, 15));
            Check.eq("the last of twelve", twelve().source(0, 14), 2);
            Twins.none("of no SOURCES", Twins::noSources, x -> x.source(0, 0));
        });
    }

    private static MicRow twelve() {
        return Check.with("00", "+01012345678016");
    }

    private static void sample() {
        Edges.edge(9, "SAMPLE of MIC m at t (-300 .. 300).", () -> {
            MicRow x = Check.with("00,01", "+81567");
            Check.eq("at -300", x.sample(0, -300), 8);
            Check.eq("at 300", x.sample(0, 300), 8);
            Check.eq("of MIC 1 at -300: w(-301)", x.sample(1, -300), 24);
            Check.eq("of MIC 1 at 300: w(299)", x.sample(1, 300), 24);
            x.sets(1, 4, 1);
            Check.eq("OUT ones too", x.sample(1, 0), 24);
        });
        Edges.edge(9, "NoSuchElementException: none such, another t.", () -> {
            for (int m : new int[] {-1, 4, LEAST, MOST}) {
                Twins.none("MIC " + m, Twins::rich, x -> x.sample(m, 0));
            }
            for (int t : new int[] {-301, 301, LEAST, MOST}) {
                Twins.none("at " + t, Twins::rich, x -> x.sample(0, t));
            }
        });
    }

    private static void turned() {
        Edges.edge(10, "TURNED to b of MIC m at t (-200 .. 200).", () -> {
            MicRow x = Check.with("00,40", "+01567");
            Check.eq("to -8 at -200: -240", x.turned(1, -8, -200), 8);
            Check.eq("to 8 at 200: 240", x.turned(1, 8, 200), 8);
            Check.eq("to 8 at -200: -160", x.turned(1, 8, -200), 24);
            Check.eq("to -8 at 200: 160", x.turned(1, -8, 200), 16);
            Check.eq("PLACE 0 stays where it is", x.turned(0, 8, 200), 24);
            x.sets(1, 4, 1);
            Check.eq("OUT ones too", x.turned(1, 8, 200), 8);
        });
        Edges.edge(10, "NoSuchElementException: none such, others.", () -> {
            for (int m : new int[] {-1, 4, LEAST, MOST}) {
                Twins.none("MIC " + m, Twins::rich, x -> x.turned(m, 0, 0));
            }
            for (int b : NO_DIRECTION) {
                Twins.none("to " + b, Twins::rich, x -> x.turned(0, b, 0));
            }
            for (int t : NO_TIME) {
                Twins.none("at " + t, Twins::rich, x -> x.turned(0, 0, t));
            }
        });
    }

    private static void beam() {
        Edges.edge(11, "BEAM to b at t (-200 .. 200).", () -> {
            MicRow x = Check.with("00,01,02", FOURS);
            Check.eq("to 8 at -200", x.beam(8, -200), -32);
            Check.eq("to 8 at 200", x.beam(8, 200), -32);
            Check.eq("to 8 at 199", x.beam(8, 199), 32);
            Check.eq("to -8 at 200: w(0), w(-2), w(-4)", x.beam(-8, 200), -10);
            Check.eq("none LIVE", Twins.noneLive().beam(0, 0), 0);
            Check.eq("of a new object", new MicRow().beam(-8, 200), 0);
        });
        Edges.edge(11, "NoSuchElementException: others.", () -> {
            for (int b : NO_DIRECTION) {
                Twins.none("to " + b, Twins::rich, x -> x.beam(b, 0));
            }
            for (int t : NO_TIME) {
                Twins.none("at " + t, Twins::rich, x -> x.beam(0, t));
            }
            Twins.none("without MICS, too", MicRow::new, x -> x.beam(9, 0));
        });
    }

    private static void blocked() {
        Edges.edge(12, "BLOCKED j to b at t (-200 .. 200).", () -> {
            MicRow x = Check.with("00,01,02", FOURS);
            Check.eq("0 to 0 at -200", x.blocked(0, 0, -200), -64);
            Check.eq("1 to 0 at 200", x.blocked(0, 1, 200), 0);
            Check.eq("1 to 0 at 199: 32 less 32", x.blocked(0, 1, 199), 64);
            Check.eq("1 to 8 at 200", x.blocked(8, 1, 200), 0);
        });
        Edges.edge(12, "NoSuchElementException: none such, others.", () -> {
            for (int j : new int[] {-1, 2, 3, 5, 6, LEAST, MOST}) {
                Twins.none("of three LIVE ones " + j, Twins::rich, x -> x.blocked(0, j, 0));
            }
            for (int b : NO_DIRECTION) {
                Twins.none("to " + b, Twins::rich, x -> x.blocked(b, 0, 0));
            }
            for (int t : NO_TIME) {
                Twins.none("at " + t, Twins::rich, x -> x.blocked(0, 0, t));
            }
            Twins.none("one LIVE one", Twins::oneLive, x -> x.blocked(0, 0, 0));
            Twins.none("no LIVE one", Twins::noneLive, x -> x.blocked(0, 0, 0));
        });
    }

    private static void clean() {
        Edges.edge(13, "CLEAN to b at t (-200 .. 200).", () -> {
            MicRow x = Check.with("00,01", FOURS);
            x.sets(1, 0, 50);
            // BEAM -8, -24, 8, 24 and BLOCKED -48, -16, 48, 16: of weight 5
            Check.eq("at -200", x.clean(0, -200), 7);
            Check.eq("at 200", x.clean(0, 200), 7);
            Check.eq("at 199", x.clean(0, 199), 19);
            Check.eq("at 197", x.clean(0, 197), -19);
            Check.eq("one LIVE one: BEAM", Twins.oneLive().clean(0, 0), Twins.oneLive().beam(0, 0));
            Check.eq("none LIVE", Twins.noneLive().clean(0, 0), 0);
            MicRow y = Check.with("00,01", "");
            y.sets(0, 1, 2);
            y.sets(1, 1, 1);
            y.holds(1, 3);
            y.weights(2);
            long weight = y.row(0);
            long taken = weight * y.blocked(2, 0, -90) / 16;
            Check.eq("by WEIGHTS of the SPAN, far from it", y.clean(2, -90), y.beam(2, -90) - taken);
            Check.yes("they are not 0", weight != 0);
        });
        Edges.edge(13, "NoSuchElementException: others.", () -> {
            for (int b : NO_DIRECTION) {
                Twins.none("to " + b, Twins::rich, x -> x.clean(b, 0));
            }
            for (int t : NO_TIME) {
                Twins.none("at " + t, Twins::rich, x -> x.clean(0, t));
            }
        });
    }
}
