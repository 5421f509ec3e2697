/** Promises 14 to 25: over the SPAN. */
public final class SpanTest {
    /** S of MIC 1 is S of MIC 0 two SAMPLES ago, -32, -32, 32, 32 in turns: to 2, -2, 6, -6 both are the same. */
    private static final String TWO = "00,08";
    private static final String FOURS = "+210088";

    public static void main(String[] args) {
        promise14Level();
        promise15Beams();
        promise16Weights();
        promise16PowersAreCompared();
        promise16Rounds();
        promise17Loudest();
        promises17And20AtTheEnds();
        promise18Pattern();
        promise19Agree();
        promise20From();
        promise21Doubtful();
        promise22Tracks();
        promise23Strongest();
        promise24Faults();
        promise25Clipped();
        Check.finish();
    }

    private static void promise14Level() {
        MicRow x = Check.with("00,01", "+0144408");
        x.holds(1, 5);
        x.holds(2, 4);
        // 0, 0, 0, -32
        Check.eq("14: LEVEL", x.level(0), 8);
        Check.row("14: of four", x, 256, 32, 8);
        x.holds(2, 5);
        // 0, 0, 0, -32, 32
        Check.eq("14: LEVEL is cut", x.level(0), 12);
        Check.row("14: the first of the greatest size", x, 409, 32, 8);
        x.holds(1, 9);
        Check.eq("14: from 9 on", x.level(0), 12);
        Check.row("14: from 9 on", x, 409, 32, 9);
        x.sets(1, 3, 1);
        x.sets(1, 4, 1);
        Check.eq("14: of a DEAD one that is OUT", x.level(1), 0);
        Check.row("14: of a DEAD one", x, 0, 0, 9);
        Check.refused("14: level(-1)", x, -1, y -> y.level(-1));
        Check.refused("14: level(2)", x, -1, y -> y.level(2));
    }

    private static void promise15Beams() {
        MicRow x = Check.with("00,01", "+810088");
        x.sets(1, 0, 50);
        Check.eq("15: LEVEL of BEAM", x.beams(0), 16);
        Check.row("15: and the others", x, 320, 13, 205);
        Check.refused("15: beams(9)", x, -1, y -> y.beams(9));
        Check.refused("15: beams(-9)", x, -1, y -> y.beams(-9));
        x.sets(0, 4, 1);
        x.sets(1, 4, 1);
        Check.eq("15: without LIVE ones", x.beams(0), 0);
        Check.row("15: without LIVE ones", x, 0, 0, 0);
    }

    private static void promise16Weights() {
        MicRow x = Check.with("00,01", "+810088");
        Check.eq("16: how many", x.weights(0), 1);
        Check.row("16: none helps", x, 0);
        x.sets(1, 0, 50);
        Check.eq("16: how many", x.weights(0), 1);
        Check.row("16: least by 5", x, 5);
        x.sets(1, 3, 1);
        x.weights(0);
        Check.row("16: one is DEAD", x, 8);
        x.sets(0, 3, 1);
        x.sets(1, 3, 0);
        x.sets(1, 0, 100);
        x.weights(0);
        Check.row("16: the other one is DEAD", x, -8);
        Check.refused("16: weights(9)", x, -1, y -> y.weights(9));
        Check.refused("16: weights(-9)", x, -1, y -> y.weights(-9));
        x.sets(0, 4, 1);
        Check.eq("16: one LIVE one", x.weights(0), 0);
        Check.row("16: an empty ROW", x);
        MicRow y = Check.with("00,01,02,03,04,05", "+0108");
        for (int m = 1; m < 6; m++) {
            y.sets(m, 3, 1);
        }
        // BEAM is a sixth of MIC 0, BLOCKED 0 is MIC 0: -32, -5 and 32, 5; 2 32 by 16 is 4, 3 32 by 16 is 6: both leave 1
        Check.eq("16: five of six LIVE ones", y.weights(0), 5);
        Check.row("16: of equal ones the least size", y, 2, 0, 0, 0, 0);
        y.sets(3, 4, 1);
        Check.eq("16: OUT ones have none", y.weights(0), 4);
    }

    private static void promise16PowersAreCompared() {
        MicRow x = Check.with("00,01", "+01844444444444");
        x.sets(1, 3, 1);
        x.sets(0, 0, 7);
        // BEAM is 1 at 0 and 12 and else 0: squares together are 2 of 16, POWER is 0 by weight 0 already
        Check.eq("16: BEAM is 1", x.beam(0, 12), 1);
        x.weights(0);
        Check.row("16: POWERS are compared, not squares", x, 0);
        x.holds(2, 13);
        x.holds(1, 12);
        x.weights(0);
        Check.row("16: two of 13", x, 0);
        x.holds(1, 0);
        x.holds(2, 4);
        x.sets(0, 0, 13);
        // one SAMPLE is 4, BEAM 2: POWER 1 of four by 0 .. 3, 0 from 4 on (1 is left)
        x.weights(0);
        Check.row("16: the least size of POWER 0", x, 4);
    }

    private static void promise16Rounds() {
        MicRow x = Check.with("00,01,03", "+014130034;-328201");
        // By one round 3 and 2, by two 0 and 4, by four -10 and 10
        Check.eq("16: three LIVE ones", x.weights(0), 2);
        Check.row("16: three times over", x, -5, 8);
        MicRow y = Check.with("00,01", "+0108");
        y.sets(1, 0, 96);
        // BEAM 31 and BLOCKED 2
        y.weights(0);
        Check.row("16: 16 at most", y, 16);
        y.sets(0, 0, 92);
        y.weights(0);
        Check.row("16: -16 at least", y, -16);
        Check.eq("16: CLEAN of -16", y.clean(0, 1), 29 - 1);
    }

    private static void promise17Loudest() {
        MicRow x = Check.with(TWO, FOURS);
        Check.eq("17: BEAM, of 2, -2, 6, -6 the first", x.loudest(0), 10);
        Check.row("17: POWER", x, 1024);
        Check.eq("17: CLEAN", x.loudest(1), 10);
        Check.row("17: POWER of CLEAN", x, 1024);
        Check.refused("17: loudest(2)", x, -1, y -> y.loudest(2));
        Check.refused("17: loudest(-1)", x, -1, y -> y.loudest(-1));
        x.aims(0, 0, -3);
        Check.eq("17: of -3, 1, 5, .. 1", x.loudest(0), 9);
        x.sets(0, 3, 1);
        Check.eq("17: of one that is DEAD BEAM is half of it", x.loudest(0), 8);
        Check.row("17: a quarter of POWER", x, 256);
        Check.eq("17: of all equal ones 0", x.loudest(1), 8);
        Check.row("17: all is taken off", x, 0);
        x.sets(0, 4, 1);
        x.sets(1, 4, 1);
        Check.refused("17: no LIVE one", x, -2, y -> y.loudest(0));
        Check.refused("17: NONE comes first", x, -1, y -> y.loudest(2));
    }

    private static void promises17And20AtTheEnds() {
        MicRow x = Check.with("00,04", "-81880080008808");
        Check.eq("17: -8", x.loudest(0), 0);
        Check.row("17: -8", x, 1024);
        Check.eq("20: -8", x.from(), 0);
        Check.row("20: -8", x, 16, 1);
        x.aims(0, 0, 8);
        Check.eq("17: 8", x.loudest(0), 16);
        Check.eq("20: 8", x.from(), 16);
        Check.eq("17: of CLEAN", x.loudest(1), 16);
        Check.row("17: of CLEAN", x, 1024);
    }

    private static void promise18Pattern() {
        MicRow x = Check.with(TWO, FOURS);
        Check.eq("18: the least b of the least", x.pattern(), 0);
        Check.row("18: all", x, 0, 16, 32, 16, 0, 16, 32, 16, 0, 16, 32, 16, 0, 16, 32, 16, 0);
        x.aims(0, 0, 1);
        Check.eq("18: turned by one", x.pattern(), 3);
        Check.row("18: turned by one", x, 16, 32, 16, 0, 16, 32, 16, 0, 16, 32, 16, 0, 16, 32, 16, 0, 16);
        x.sets(0, 4, 1);
        Check.eq("18: of one all are equal", x.pattern(), 0);
        x.sets(1, 4, 1);
        Check.refused("18: no LIVE one", x, -2, MicRow::pattern);
    }

    private static void promise19Agree() {
        MicRow x = Check.with(TWO, FOURS);
        Check.eq("19: all", x.agree(0, 1, 2), 16);
        Check.row("19: LONG", x, 16);
        Check.eq("19: half", x.agree(1, 0, 1), 8);
        Check.eq("19: none", x.agree(1, 0, -4), 0);
        x.sets(0, 4, 1);
        x.holds(2, 7);
        Check.eq("19: OUT ones too", x.agree(0, 1, -6), 7);
        Check.row("19: LONG 7", x, 7);
        Check.sources(x, "+210484");
        // -32, 0, 32, 0 against 32, 0, -32, 0
        Check.eq("19: both 0 is the same sign", x.agree(0, 1, 0), 3);
        x.sets(1, 3, 1);
        Check.eq("19: 0 against others is not", x.agree(0, 1, 2), 3);
        int[][] wrong = {{0, 0, 0}, {1, 1, 0}, {-1, 0, 0}, {0, 2, 0}, {2, 0, 0}, {0, -1, 0}, {0, 1, 9}, {0, 1, -9}};
        for (int[] one : wrong) {
            Check.refused("19: agree(" + one[0] + ", " + one[1] + ", " + one[2] + ")", x, -1, y -> y.agree(one[0], one[1], one[2]));
        }
    }

    private static void promise20From() {
        MicRow x = Check.with(TWO, FOURS);
        Check.eq("20: of 2 and -2 the one above 0", x.from(), 10);
        Check.row("20: AGREE, one pair", x, 16, 1);
        x.aims(0, 0, 3);
        Check.eq("20: of 3, -1, 7, -5 the least size", x.from(), 7);
        Check.mics(x, "00,08,16,17");
        x.sets(3, 4, 1);
        Check.eq("20: three LIVE ones", x.from(), 7);
        Check.row("20: three pairs", x, 48, 3);
        Check.sources(x, "");
        Check.eq("20: nothing is heard", x.from(), 8);
        x.sets(0, 4, 1);
        x.sets(1, 4, 1);
        Check.refused("20: one LIVE one", x, -2, MicRow::from);
    }

    private static void promise21Doubtful() {
        MicRow x = Check.with(TWO, FOURS);
        Check.eq("21: four", x.doubtful(), 4);
        Check.row("21: the least first", x, 2, 6, 10, 14);
        x.aims(0, 0, 0);
        Check.eq("21: five", x.doubtful(), 5);
        Check.row("21: from end to end", x, 0, 4, 8, 12, 16);
        Check.sources(x, "");
        Check.eq("21: all", x.doubtful(), 17);
        Check.row("21: all", x, 0, 1, 2, 3, 4, 5, 6, 7, 8, 9, 10, 11, 12, 13, 14, 15, 16);
        x.sets(1, 4, 1);
        Check.refused("21: one LIVE one", x, -2, MicRow::doubtful);
    }

    private static MicRow windy(String sources) {
        MicRow x = Check.with("00,02,05", sources);
        for (int m = 0; m < 3; m++) {
            x.sets(m, 1, 1);
        }
        return x;
    }

    private static void promise22Tracks() {
        MicRow x = windy("+1163835");
        x.holds(2, 6);
        Check.eq("22: five SPANS", x.tracks(5), 3);
        Check.row("22: five SPANS", x, 4, 9, 15, 8, 8);
        Check.eq("22: one SPAN", x.tracks(1), 0);
        Check.row("22: one SPAN", x, 4);
        x.holds(1, 6);
        Check.eq("22: from the second on", x.tracks(4), 2);
        Check.row("22: from the second on", x, 9, 15, 8, 8);
        x.holds(1, 0);
        Check.refused("22: tracks(0)", x, -1, y -> y.tracks(0));
        Check.refused("22: tracks(13)", x, -1, y -> y.tracks(13));
        Check.refused("22: tracks(-1)", x, -1, y -> y.tracks(-1));
        x.holds(1, 134);
        Check.yes("22: the last one begins at 200", x.tracks(12) >= 0);
        Check.eq("22: all twelve", x.count(7), 12);
        x.holds(1, 135);
        Check.refused("22: the last one would begin at 201", x, -1, y -> y.tracks(12));
        x.holds(1, 200);
        Check.yes("22: one at 200", x.tracks(1) >= 0);
        x.sets(0, 4, 1);
        x.sets(1, 4, 1);
        Check.refused("22: one LIVE one", x, -2, y -> y.tracks(1));
        Check.refused("22: NONE comes first", x, -1, y -> y.tracks(2));
    }

    private static void promise23Strongest() {
        MicRow x = Check.with("00,01", "+0108;+0308;+0308");
        Check.eq("23: the louder one, of equal ones the first", x.strongest(0), 1);
        Check.row("23: alone, and all together", x, 96 * 96, 224 * 224);
        x.holds(0, 50);
        Check.eq("23: CLIP is as it is", x.strongest(0), 1);
        Check.row("23: clipped", x, 2500, 2500);
        x.holds(0, 30);
        Check.eq("23: all clipped, the first", x.strongest(0), 0);
        x.sets(0, 3, 1);
        x.sets(0, 4, 1);
        Check.eq("23: of a DEAD one the first", x.strongest(0), 0);
        Check.row("23: of a DEAD one", x, 0, 0);
        x.holds(0, 9999);
        x.sets(1, 1, 1);
        x.holds(2, 4);
        x.strongest(1);
        long sum = 0;
        long[] gusts = new long[4];
        Check.sources(x, "");
        for (int t = 0; t < 4; t++) {
            gusts[t] = x.sample(1, t);
        }
        Check.refused("23: no SOURCES", x, -2, y -> y.strongest(1));
        Check.refused("23: no such MIC comes first", x, -1, y -> y.strongest(2));
        Check.sources(x, "+0108;+0308");
        for (int t = 0; t < 4; t++) {
            long v = gusts[t] + (t % 2 == 0 ? -96 : 96);
            sum += v * v;
        }
        Check.eq("23: with WIND", x.strongest(1), 1);
        Check.eq("23: the other SOURCE is not there, WIND is", x.row(0), sum / 4);
        Check.refused("23: strongest(-1)", x, -1, y -> y.strongest(-1));
    }

    private static MicRow faulty() {
        // -32, 0, 32, 32 of MIC 0, half of it of MIC 1, nothing of MIC 2
        MicRow x = Check.with("00,01,02", "+010488");
        x.holds(0, 32);
        x.sets(1, 0, 50);
        x.sets(2, 3, 1);
        return x;
    }

    private static void promise24Faults() {
        MicRow x = faulty();
        int[][] due = {{0, 7, 7}, {1, 1, 3}, {11, 1, 3}, {12, 1, 0}, {13, 0, 0}, {48, 0, 0}};
        for (int[] one : due) {
            Check.eq("24: QUIET", x.faults(one[0]), 4);
            Check.row("24: faults(" + one[0] + ")", x, one[1], one[2]);
        }
        x.sets(1, 0, 1);
        x.sets(0, 4, 1);
        Check.eq("24: so low that all are 0; OUT ones too", x.faults(1), 6);
        Check.row("24: OUT ones too", x, 1, 1);
        Check.refused("24: faults(-1)", x, -1, y -> y.faults(-1));
        Check.refused("24: faults(49)", x, -1, y -> y.faults(49));
    }

    private static void promise25Clipped() {
        MicRow x = faulty();
        Check.eq("25: CLIPPED on both sides", x.clipped(0), 12);
        Check.row("25: ROUGH", x, 11, 0);
        Check.eq("25: not CLIPPED", x.clipped(1), 0);
        Check.row("25: not CLIPPED", x, 11, 0);
        Check.eq("25: DEAD", x.clipped(2), 0);
        Check.row("25: QUIET", x, 0, 1);
        x.holds(0, 31);
        Check.eq("25: held", x.clipped(0), 12);
        x.holds(0, 33);
        Check.eq("25: below CLIP", x.clipped(0), 0);
        x.holds(0, 32);
        x.holds(1, 1);
        x.holds(2, 4);
        x.sets(0, 4, 1);
        // 0, 32, 32, -32
        Check.eq("25: of another SPAN, OUT ones too", x.clipped(0), 3);
        Check.row("25: both in the SPAN", x, 2, 0);
        Check.refused("25: clipped(-1)", x, -1, y -> y.clipped(-1));
        Check.refused("25: clipped(3)", x, -1, y -> y.clipped(3));
    }
}
