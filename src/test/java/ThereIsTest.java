/** Promises 7 to 13: what there is. */
public final class ThereIsTest {
    /** The SOURCE of two steps 0, 4 from 3, heard at PLACE 3: x is 8 t - 9, so two SAMPLES come in turns: 56, 8. */
    private static final String PART = "+3248";

    public static void main(String[] args) {
        promise7Mic();
        promise8Source();
        promise9Heard();
        promise9Wind();
        promise9Clip();
        promise10Turned();
        promise11Beam();
        promise12Blocked();
        promise13Clean();
        Check.finish();
    }

    private static void promise7Mic() {
        MicRow x = Check.with("02,05", "");
        x.sets(1, 0, 150);
        x.sets(1, 1, 7);
        x.sets(1, 2, 60);
        x.sets(1, 3, 1);
        x.sets(1, 4, 1);
        long[] first = {2, 100, 0, 100, 0, 0};
        long[] second = {5, 150, 7, 60, 1, 1};
        for (int what = 0; what < 6; what++) {
            Check.eq("7: mic(0, " + what + ")", x.mic(0, what), first[what]);
            Check.eq("7: mic(1, " + what + ")", x.mic(1, what), second[what]);
        }
        int[][] wrong = {{-1, 0}, {2, 0}, {0, -1}, {0, 6}, {6, 0}, {0, Integer.MAX_VALUE}, {Integer.MIN_VALUE, 0}};
        for (int[] one : wrong) {
            Check.none("7: mic(" + one[0] + ", " + one[1] + ")", () -> x.mic(one[0], one[1]));
        }
    }

    private static void promise8Source() {
        MicRow x = Check.with("", "-71086;+2971");
        long[] first = {-7, 1, 3, -4, 4, 2};
        long[] second = {2, 9, 2, 3, -3};
        for (int what = 0; what < first.length; what++) {
            Check.eq("8: source(0, " + what + ")", x.source(0, what), first[what]);
        }
        for (int what = 0; what < second.length; what++) {
            Check.eq("8: source(1, " + what + ")", x.source(1, what), second[what]);
        }
        int[][] wrong = {{-1, 0}, {2, 0}, {0, -1}, {0, 6}, {1, 5}, {1, 15}, {0, Integer.MAX_VALUE}, {0, Integer.MIN_VALUE}, {4, 0}};
        for (int[] one : wrong) {
            Check.none("8: source(" + one[0] + ", " + one[1] + ")", () -> x.source(one[0], one[1]));
        }
    }

    private static void promise9Heard() {
        MicRow x = Check.with("03", PART);
        for (int t = -300; t <= 300; t += t % 2 == 0 ? 1 : 5) {
            Check.eq("9: by parts of a sample, at " + t, x.sample(0, t), t % 2 == 0 ? 56 : 8);
        }
        x.sets(0, 0, 33);
        Check.eq("9: GAIN is cut towards 0", x.sample(0, 0), 18);
        Check.sources(x, "+3240");
        Check.eq("9: GAIN is cut towards 0 below 0", x.sample(0, 0), -18);
        x.sets(0, 0, 100);
        Check.sources(x, "-3248");
        Check.eq("9: from the other side", x.sample(0, 0), 2 * 7 * 4);
        Check.eq("9: x is 9, k 1, f 1", x.sample(0, 1), 2 * 4);
        Check.sources(x, "-324321");
        Check.eq("9: x is 9: 7 w(1) and w(2) of 0, -1, -2, -3", x.sample(0, 0), 2 * (7 * -1 + -2));
        Check.eq("9: x is 25: 7 w(3) and w(0)", x.sample(0, 2), 2 * (7 * -3 + 0));
        Check.eq("9: x is -7: 7 w(-1) and w(0): steps from the end", x.sample(0, -2), 2 * (7 * -3 + 0));
        Check.sources(x, "+3248;+0366");
        Check.eq("9: all SOURCES together", x.sample(0, 0), 56 + 3 * 8 * 2);
        x.sets(0, 3, 1);
        Check.eq("9: DEAD", x.sample(0, 0), 0);
        int[][] wrong = {{-1, 0}, {1, 0}, {0, -301}, {0, 301}, {0, Integer.MIN_VALUE}, {0, Integer.MAX_VALUE}};
        for (int[] one : wrong) {
            Check.none("9: sample(" + one[0] + ", " + one[1] + ")", () -> x.sample(one[0], one[1]));
        }
    }

    private static void promise9Wind() {
        MicRow x = Check.with("00,01", "");
        x.sets(0, 1, 1);
        x.sets(1, 1, 3);
        // t 0: 630000 + 4043 is 391 modulo 1009, 391 is 0 modulo 17
        Check.eq("9: GUST of MIC 0 at 0", x.sample(0, 0), -64);
        // t 0 of MIC 1: 630000 + 8086 is 398 modulo 1009, 398 is 7 modulo 17
        Check.eq("9: GUST of MIC 1 at 0", x.sample(1, 0), 3 * (7 - 8) * 8);
        // t -300: 0 + 143 is 143, 143 is 7 modulo 17
        Check.eq("9: GUST of MIC 0 at -300", x.sample(0, -300), -8);
        // t 300: 2520000 + 7943 is 2527943, 398 modulo 1009, 7 modulo 17
        Check.eq("9: GUST of MIC 0 at 300", x.sample(0, 300), (2527943 % 1009 % 17 - 8) * 8);
        x.sets(0, 0, 50);
        Check.eq("9: WIND goes through GAIN", x.sample(0, 0), -32);
    }

    private static void promise9Clip() {
        MicRow x = Check.with("03", PART);
        x.holds(0, 55);
        Check.eq("9: held to CLIP", x.sample(0, 0), 55);
        Check.eq("9: below it", x.sample(0, 1), 8);
        x.sets(0, 0, 50);
        Check.eq("9: GAIN comes ahead of CLIP", x.sample(0, 0), 28);
        x.sets(0, 0, 100);
        Check.sources(x, "+3240");
        Check.eq("9: held to -CLIP", x.sample(0, 0), -55);
    }

    private static void promise10Turned() {
        MicRow x = Check.with("03", PART);
        // To 3: x is 8 t + 9, k is t + 1, f is 1: (7 * 8 + 56) by 8, and (7 * 56 + 8) by 8
        Check.eq("10: to 3 at 0", x.turned(0, 3, 0), 14);
        Check.eq("10: to 3 at 1", x.turned(0, 3, 1), 50);
        // To -3: x is 8 t - 9, k is t - 2, f is 7: (56 + 7 * 8) by 8
        Check.eq("10: to -3 at 0", x.turned(0, -3, 0), 14);
        Check.eq("10: to 0 at 0", x.turned(0, 0, 0), 56);
        x.sets(0, 2, 33);
        Check.eq("10: EQUAL", x.turned(0, 3, 0), 4);
        x.sets(0, 2, 150);
        Check.eq("10: EQUAL above 100", x.turned(0, 3, 0), 21);
        x.sets(0, 4, 1);
        Check.eq("10: OUT is turned too", x.turned(0, 3, 0), 21);
        Check.sources(x, "+3240");
        x.sets(0, 2, 33);
        Check.eq("10: cut towards 0", x.turned(0, 3, 0), -4);
        x.sets(0, 0, 13);
        // SAMPLES -7, -1: (-7 - 7) by 8 is -1, times 33 by 100 is 0; (-49 - 1) by 8 is -6, times 33 by 100 is -1
        Check.eq("10: cut twice", x.turned(0, 3, 0), 0);
        Check.eq("10: cut twice at 1", x.turned(0, 3, 1), -1);
        Check.eq("10: at -200", x.turned(0, 3, -200), 0);
        Check.eq("10: at 200", x.turned(0, 3, 200), 0);
        int[][] wrong = {{-1, 0, 0}, {1, 0, 0}, {0, 9, 0}, {0, -9, 0}, {0, 0, 201}, {0, 0, -201}, {0, Integer.MIN_VALUE, 0}};
        for (int[] one : wrong) {
            Check.none("10: turned(" + one[0] + ", " + one[1] + ", " + one[2] + ")", () -> x.turned(one[0], one[1], one[2]));
        }
        MicRow far = Check.with("40", "+8148");
        for (int t = -200; t <= 200; t++) {
            Check.eq("10: 40 SAMPLES away at " + t, far.turned(0, 8, t), t % 2 == 0 ? 0 : 32);
        }
    }

    private static void promise11Beam() {
        MicRow x = Check.with("00,01,02", "+810088");
        Check.eq("11: to 8", x.beam(8, 0), -32);
        // -32, 32, 32 and -32, -32, 32
        Check.eq("11: cut towards 0", x.beam(0, 0), 10);
        Check.eq("11: cut towards 0 below 0", x.beam(0, 1), -10);
        x.sets(0, 4, 1);
        Check.eq("11: without those that are OUT", x.beam(0, 0), 32);
        x.sets(1, 3, 1);
        Check.eq("11: DEAD ones count", x.beam(0, 0), 16);
        x.sets(1, 4, 1);
        x.sets(2, 4, 1);
        Check.eq("11: without LIVE ones", x.beam(0, 0), 0);
        Check.eq("11: at the ends", x.beam(-8, -200) + x.beam(8, 200), 0);
        int[][] wrong = {{9, 0}, {-9, 0}, {0, 201}, {0, -201}, {Integer.MAX_VALUE, 0}, {0, Integer.MIN_VALUE}};
        for (int[] one : wrong) {
            Check.none("11: beam(" + one[0] + ", " + one[1] + ")", () -> x.beam(one[0], one[1]));
        }
    }

    private static void promise12Blocked() {
        MicRow x = Check.with("00,01,02", "+810088");
        Check.eq("12: 0 to 0", x.blocked(0, 0, 0), -64);
        Check.eq("12: 1 to 0", x.blocked(0, 1, 0), 0);
        Check.eq("12: 1 to 0 at 1", x.blocked(0, 1, 1), -64);
        Check.eq("12: to 8", x.blocked(8, 1, 1), 0);
        x.sets(1, 4, 1);
        Check.eq("12: the next LIVE one", x.blocked(0, 0, 0), -64);
        Check.eq("12: the next LIVE one at 1", x.blocked(0, 0, 1), -64);
        int[][] wrong = {{0, 1, 0}, {0, -1, 0}, {9, 0, 0}, {-9, 0, 0}, {0, 0, 201}, {0, 0, -201}, {0, Integer.MAX_VALUE, 0}};
        for (int[] one : wrong) {
            Check.none("12: blocked(" + one[0] + ", " + one[1] + ", " + one[2] + ")", () -> x.blocked(one[0], one[1], one[2]));
        }
        x.sets(0, 4, 1);
        Check.none("12: of one LIVE one", () -> x.blocked(0, 0, 0));
    }

    private static void promise13Clean() {
        MicRow x = Check.with("00,01", "+810088");
        x.sets(1, 0, 50);
        // BEAM -8, -24, 8, 24 and BLOCKED -48, -16, 48, 16: of weight 5
        long[] due = {7, -19, -7, 19};
        for (int t = -200; t <= 200; t++) {
            Check.eq("13: at " + t, x.clean(0, t), due[Math.floorMod(t, 4)]);
        }
        x.sets(1, 0, 100);
        x.sets(1, 3, 1);
        Check.eq("13: all is taken off", x.clean(0, 2), 0);
        x.sets(1, 4, 1);
        Check.eq("13: of one LIVE one it is BEAM", x.clean(0, 2), 32);
        int[][] wrong = {{9, 0}, {-9, 0}, {0, 201}, {0, -201}};
        for (int[] one : wrong) {
            Check.none("13: clean(" + one[0] + ", " + one[1] + ")", () -> x.clean(one[0], one[1]));
        }
        MicRow y = Check.with("00,01", "");
        y.sets(0, 1, 1);
        y.sets(1, 0, 50);
        y.sets(1, 1, 1);
        y.holds(1, 3);
        y.weights(2);
        long weight = y.row(0);
        long taken = weight * y.blocked(2, 0, -90) / 16;
        Check.eq("13: weights of the SPAN, far from it", y.clean(2, -90), y.beam(2, -90) - taken);
    }
}
