/** Promises 26 to 33: what would be. */
public final class WouldBeTest {
    /** Each MIC hears what the one ahead of it heard one SAMPLE before: -32, -32, 32, 32 in turns. */
    private static final String THREE = "00,01,02";
    private static final String FOURS = "+810088";

    public static void main(String[] args) {
        promise26Without();
        promise27Worst();
        promise28Best();
        promise29Masks();
        promise30Nulled();
        promise31Behind();
        promise32Later();
        promise33Settles();
        Check.finish();
    }

    private static void promise26Without() {
        MicRow x = Check.with(THREE, FOURS);
        Check.eq("26: 0 and 2 take each other off", x.without(1, 0), 0);
        Check.row("26: POWER now", x, 100);
        Check.eq("26: without the first", x.without(0, 0), 512);
        Check.eq("26: to 8", x.without(0, 8), 1024);
        Check.eq("26: nothing is changed", x.count(2), 7);
        int[][] wrong = {{-1, 0}, {3, 0}, {0, 9}, {0, -9}};
        for (int[] one : wrong) {
            Check.refused("26: without(" + one[0] + ", " + one[1] + ")", x, -1, y -> y.without(one[0], one[1]));
        }
        x.sets(0, 4, 1);
        Check.refused("26: it is OUT already", x, -1, y -> y.without(0, 0));
        Check.eq("26: OUT, too", x.without(1, 0), 1024);
        Check.row("26: POWER of two", x, 512);
        x.sets(1, 4, 1);
        Check.refused("26: none would be LIVE", x, -2, y -> y.without(2, 0));
        Check.refused("26: NONE comes first", x, -1, y -> y.without(2, 9));
    }

    private static void promise27Worst() {
        MicRow x = Check.with(THREE, FOURS);
        Check.eq("27: without 1 nothing is left", x.worst(0), 1);
        Check.row("27: POWER of CLEAN", x, 0);
        Check.eq("27: of equal ones the first", x.worst(8), 0);
        Check.row("27: to 8", x, 1024);
        x.sets(2, 0, 50);
        // 0 and 1: BEAM 512 and none helps; 1 and 2: as 0 and 1 with GAIN 50, POWER of CLEAN 205;
        // 0 and 2: BEAM -8, 8 and BLOCKED -48, 48: by weight 3 it is 1
        Check.eq("27: weights are learnt anew", x.worst(0), 1);
        Check.row("27: weights are learnt anew", x, 1);
        x.sets(0, 4, 1);
        Check.eq("27: LIVE ones alone", x.worst(0), 1);
        Check.row("27: CLEAN of one is BEAM", x, 256);
        Check.refused("27: worst(9)", x, -1, y -> y.worst(9));
        Check.refused("27: worst(-9)", x, -1, y -> y.worst(-9));
        x.sets(1, 4, 1);
        Check.refused("27: one LIVE one", x, -2, y -> y.worst(0));
        Check.refused("27: NONE comes first", x, -1, y -> y.worst(9));
    }

    private static void promise28Best() {
        MicRow x = Check.with(THREE, FOURS);
        Check.eq("28: one, of equal ones the least number", x.best(1, 0), 1);
        Check.row("28: one", x, 1024);
        Check.eq("28: two", x.best(2, 0), 5);
        Check.row("28: two", x, 0);
        Check.eq("28: three", x.best(3, 0), 7);
        Check.row("28: three", x, 100);
        Check.eq("28: to 8", x.best(2, 8), 3);
        x.sets(0, 4, 1);
        x.sets(2, 4, 1);
        Check.eq("28: of all MICS, OUT ones too", x.best(2, 0), 5);
        Check.eq("28: nothing is changed", x.count(2), 2);
        x.sets(2, 0, 99);
        Check.eq("28: the least", x.best(1, 0), 4);
        Check.row("28: the least", x, 31 * 31);
        Check.refused("28: there are less", x, -2, y -> y.best(4, 0));
        int[][] wrong = {{0, 0}, {7, 0}, {-1, 0}, {4, 9}, {1, -9}};
        for (int[] one : wrong) {
            Check.refused("28: best(" + one[0] + ", " + one[1] + ")", x, -1, y -> y.best(one[0], one[1]));
        }
    }

    private static void promise29Masks() {
        MicRow x = Check.with("00,01", "+0108;+0308");
        Check.eq("29: but for the louder one", x.masks(0), 1);
        Check.row("29: the other one's POWER", x, 1024);
        Check.eq("29: both are there", x.count(1), 2);
        Check.sources(x, "+0108;+0180");
        Check.eq("29: of equal ones the first", x.masks(0), 0);
        Check.row("29: they take each other off, one alone does not", x, 1024);
        x.sets(0, 4, 1);
        x.sets(1, 4, 1);
        Check.eq("29: without LIVE ones", x.masks(0), 0);
        Check.row("29: without LIVE ones", x, 0);
        Check.refused("29: masks(9)", x, -1, y -> y.masks(9));
        Check.refused("29: masks(-9)", x, -1, y -> y.masks(-9));
        Check.sources(x, "");
        Check.refused("29: no SOURCES", x, -2, y -> y.masks(0));
        Check.refused("29: NONE comes first", x, -1, y -> y.masks(9));
    }

    private static void promise30Nulled() {
        MicRow x = Check.with("00,01", "+810088;+0108");
        x.sets(1, 0, 50);
        // With the first alone the weight is 5. BEAM of both -32, 0, -16, 48 and BLOCKED -64, 0, 32, 32
        Check.eq("30: one from 8", x.nulled(0, 8), 1);
        Check.row("30: POWER of CLEAN, of BEAM", x, 566, 896);
        Check.eq("30: none from 5", x.nulled(0, 5), 0);
        Check.row("30: weight 0", x, 896, 896);
        x.aims(1, 0, 8);
        Check.eq("30: two from 8", x.nulled(0, 8), 2);
        // BEAM -16, -16, 0, 32 and BLOCKED -96, 32, 0, 64: of weight 3
        Check.row("30: of both", x, 222, 384);
        int[][] wrong = {{9, 0}, {-9, 0}, {0, 9}, {0, -9}};
        for (int[] one : wrong) {
            Check.refused("30: nulled(" + one[0] + ", " + one[1] + ")", x, -1, y -> y.nulled(one[0], one[1]));
        }
    }

    private static void promise31Behind() {
        MicRow x = Check.with("00,01", FOURS);
        Check.eq("31: 0 comes ahead of 1", x.behind(0, 1), 7);
        Check.row("31: always", x, 16);
        Check.eq("31: 1 comes behind 0", x.behind(1, 0), 9);
        x.sets(0, 4, 1);
        x.holds(2, 9);
        Check.eq("31: OUT ones too", x.behind(1, 0), 9);
        Check.row("31: nine times", x, 9);
        x.moves(1, 2);
        Check.eq("31: of 2 and -2 the one above 0", x.behind(0, 1), 10);
        x.sets(0, 3, 1);
        x.sets(1, 3, 1);
        Check.eq("31: of all the one of the least size", x.behind(0, 1), 8);
        int[][] wrong = {{0, 0}, {1, 1}, {-1, 0}, {0, -1}, {2, 0}, {0, 2}};
        for (int[] one : wrong) {
            Check.refused("31: behind(" + one[0] + ", " + one[1] + ")", x, -1, y -> y.behind(one[0], one[1]));
        }
        MicRow far = Check.with("00,08", "+8180880800888;+81880080008808");
        Check.eq("31: by 8", far.behind(1, 0), 16);
        Check.row("31: by 8", far, 16);
        Check.eq("31: by -8", far.behind(0, 1), 0);
        far.moves(1, 9);
        Check.yes("31: by 9 is too far", far.behind(1, 0) <= 16 && far.row(0) < 16);
        MicRow y = Check.with("00,01", "");
        y.sets(0, 1, 1);
        y.sets(1, 1, 1);
        int found = y.behind(0, 1) - 8;
        int alike = 0;
        for (int t = 0; t < 16; t++) {
            alike += Integer.signum(y.sample(0, t + found)) == Integer.signum(y.sample(1, t)) ? 1 : 0;
        }
        Check.row("31: the one at t and s, the other at t", y, alike);
    }

    private static MicRow windy(String sources) {
        MicRow x = Check.with("00,02,05", sources);
        for (int m = 0; m < 3; m++) {
            x.sets(m, 1, 1);
        }
        return x;
    }

    private static void promise32Later() {
        MicRow x = windy("+1163835");
        x.holds(2, 6);
        int[] due = {4, 9, 15, 8, 8};
        for (int i = 0; i < due.length; i++) {
            Check.eq("32: later(" + 6 * i + ")", x.later(6 * i), due[i]);
            Check.eq("32: one number", x.count(7), 1);
            long told = x.row(0);
            x.holds(1, 6 * i);
            Check.eq("32: as FROM then", x.from(), due[i]);
            Check.eq("32: AGREE as FROM then", x.row(0), told);
        }
        Check.eq("32: BEGIN stays", x.count(4), 24);
        Check.yes("32: later(200)", x.later(200) >= 0);
        int[] wrong = {-1, 201, Integer.MIN_VALUE, Integer.MAX_VALUE};
        for (int one : wrong) {
            Check.refused("32: later(" + one + ")", x, -1, y -> y.later(one));
        }
        x.sets(0, 4, 1);
        x.sets(1, 4, 1);
        Check.refused("32: one LIVE one", x, -2, y -> y.later(0));
        Check.refused("32: NONE comes first", x, -1, y -> y.later(201));
    }

    private static void promise33Settles() {
        MicRow x = windy("+1163835");
        // FROM by LONG 4, 5, ..: -4 5 -4, seven times 5, -4 -4 -6, 8 from 17 to 40, 0 0 8 8, 4 from 45 on
        x.holds(2, 48);
        Check.eq("33: not at 5, where it does not stay", x.settles(5), 7);
        Check.eq("33: 8", x.settles(8), 17);
        Check.eq("33: as far as 48", x.settles(4), 45);
        Check.refused("33: never for long", x, -2, y -> y.settles(0));
        Check.refused("33: never for long from the beginning", x, -2, y -> y.settles(-4));
        Check.refused("33: never", x, -2, y -> y.settles(-8));
        settlesOfOthers();
    }

    private static void settlesOfOthers() {
        MicRow x = windy("-813270");
        Check.eq("33: by 48 alone", x.settles(0), 48);
        Check.mark(x);
        Check.refused("33: the ROW stays", x, 48, y -> y.settles(0));
        Check.refused("33: settles(9)", x, -1, y -> y.settles(9));
        Check.refused("33: settles(-9)", x, -1, y -> y.settles(-9));
        x.sets(0, 4, 1);
        x.sets(1, 4, 1);
        Check.refused("33: one LIVE one", x, -2, y -> y.settles(0));
        Check.refused("33: NONE comes first", x, -1, y -> y.settles(9));
        MicRow five = windy("+316583");
        // 2 from 33 to 37, -2 from 41 to 44
        Check.eq("33: five of them are enough", five.settles(2), 33);
        Check.refused("33: four are not", five, -2, z -> z.settles(-2));
        MicRow y = Check.with("00,08", "+210088");
        Check.eq("33: at once", y.settles(2), 4);
        y.holds(1, 200);
        Check.eq("33: from 200 on", y.settles(2), 4);
        Check.refused("33: -2 is as good as 2, but not taken", y, -2, z -> z.settles(-2));
    }
}
