/** Promises 34 to 43: changes. */
public final class ChangesTest {
    private static final String FOURS = "+810088";

    public static void main(String[] args) {
        promise34Sets();
        promise34Wrong();
        promise35Holds();
        promise36Moves();
        promise37Learns();
        promise38Sorts();
        promise39Aims();
        promise40Goes();
        promise41Day();
        promise41Stops();
        promise41Wrong();
        promise42Undo();
        promise42Eight();
        promise43Years();
        promise43Draws();
        Check.finish();
    }

    private static void promise34Sets() {
        MicRow x = Check.with("00,01", FOURS);
        int[] least = {1, 0, 1, 0, 0};
        int[] most = {400, 9, 200, 1, 1};
        int[] first = {100, 0, 100, 0, 0};
        Check.mark(x);
        long mark = x.row(0);
        int undone = 2;
        for (int what = 0; what < 5; what++) {
            int w = what;
            Check.eq("34: to the most", x.sets(1, what, most[what]), first[what]);
            Check.eq("34: it is so then", x.mic(1, what + 1), most[what]);
            Check.refused("34: it is so", x, -2, y -> y.sets(1, w, most[w]));
            Check.eq("34: to the least", x.sets(1, what, least[what]), most[what]);
            Check.eq("34: it is so then", x.mic(1, what + 1), least[what]);
            undone = Math.min(8, undone + 2);
            Check.eq("34: it can be undone", x.count(6), undone);
            Check.refused("34: below the least", x, -1, y -> y.sets(1, w, least[w] - 1));
            Check.refused("34: above the most", x, -1, y -> y.sets(1, w, most[w] + 1));
            Check.eq("34: the other one stays", x.mic(0, what + 1), first[what]);
        }
        Check.eq("34: the ROW stays", x.row(0), mark);
    }

    private static void promise34Wrong() {
        MicRow x = Check.with("00,01", FOURS);
        int[][] wrong = {{-1, 0, 5}, {2, 0, 5}, {0, -1, 5}, {0, 5, 1}, {0, Integer.MAX_VALUE, 1}, {0, Integer.MIN_VALUE, 1},
            {0, 0, Integer.MAX_VALUE}, {0, 0, Integer.MIN_VALUE}, {0, -1, 0}, {6, 0, 5}};
        for (int[] one : wrong) {
            Check.refused("34: sets(" + one[0] + ", " + one[1] + ", " + one[2] + ")", x, -1, y -> y.sets(one[0], one[1], one[2]));
        }
    }

    private static void promise35Holds() {
        MicRow x = Check.with("00,01", FOURS);
        Check.mark(x);
        int[][] due = {{9999, 1, 9999}, {0, 0, 200}, {16, 4, 48}};
        for (int what = 0; what < 3; what++) {
            int w = what;
            int other = what == 1 ? 200 : due[what][1];
            Check.eq("35: what it was", x.holds(what, other), due[what][0]);
            Check.eq("35: it is so then", x.count(3 + what), other);
            Check.refused("35: it is so", x, -2, y -> y.holds(w, other));
            Check.refused("35: below the least", x, -1, y -> y.holds(w, due[w][1] - 1));
            Check.refused("35: above the most", x, -1, y -> y.holds(w, due[w][2] + 1));
        }
        Check.eq("35: LONG 48", x.holds(2, 48), 4);
        Check.eq("35: CLIP 9999", x.holds(0, 9999), 1);
        Check.eq("35: BEGIN 0", x.holds(1, 0), 200);
        Check.eq("35: they can be undone", x.count(6), 8);
        Check.refused("35: holds(3, 5)", x, -1, y -> y.holds(3, 5));
        Check.refused("35: holds(-1, 5)", x, -1, y -> y.holds(-1, 5));
        Check.eq("35: the ROW stays", x.count(7), 3);
    }

    private static void promise36Moves() {
        MicRow x = Check.with("05,10,20", FOURS);
        Check.mark(x);
        Check.eq("36: up", x.moves(1, 19), 10);
        Check.eq("36: it is there", x.mic(1, 0), 19);
        Check.eq("36: down", x.moves(1, 6), 19);
        Check.eq("36: the first", x.moves(0, 0), 5);
        Check.eq("36: the last", x.moves(2, 40), 20);
        Check.eq("36: they can be undone", x.count(6), 6);
        Check.refused("36: it is there", x, -2, y -> y.moves(2, 40));
        Check.refused("36: as the one ahead", x, -3, y -> y.moves(1, 0));
        Check.refused("36: as the one behind", x, -3, y -> y.moves(1, 40));
        Check.refused("36: over the one behind", x, -3, y -> y.moves(0, 7));
        Check.refused("36: over the one ahead", x, -3, y -> y.moves(2, 3));
        int[][] wrong = {{-1, 3}, {3, 3}, {1, -1}, {1, 41}, {2, 41}, {0, -1}, {Integer.MAX_VALUE, 3}};
        for (int[] one : wrong) {
            Check.refused("36: moves(" + one[0] + ", " + one[1] + ")", x, -1, y -> y.moves(one[0], one[1]));
        }
        Check.eq("36: GAIN goes along", x.sets(1, 0, 7) + x.moves(1, 9), 100 + 6);
        Check.eq("36: GAIN goes along", x.mic(1, 1), 7);
    }

    private static void promise37Learns() {
        MicRow x = Check.with("00,01,02,03,04", "+0108");
        x.sets(1, 0, 60);
        x.sets(2, 0, 10);
        x.sets(3, 3, 1);
        x.sets(3, 2, 77);
        x.sets(4, 0, 1);
        x.sets(0, 4, 1);
        Check.mark(x);
        // LEVELS 32, 19, 3, 0 and 0: 3200 by 19 is 168; 3200 by 3 is held to 200; QUIET ones stay
        Check.eq("37: two have another one", x.learns(), 2);
        long[] due = {100, 168, 200, 77, 100};
        for (int m = 0; m < 5; m++) {
            Check.eq("37: EQUAL of " + m, x.mic(m, 3), due[m]);
        }
        int undone = x.count(6);
        Check.eq("37: none has another one", x.learns(), 0);
        Check.eq("37: it was done all the same", x.count(6), Math.min(8, undone + 1));
        Check.eq("37: the ROW stays", x.count(7), 3);
        MicRow y = Check.with("00,01", "+01844444444444");
        y.sets(0, 0, 10);
        y.sets(1, 0, 20);
        // 3 and 6 at 0 and 12 alone: LEVEL 0 of both
        Check.eq("37: of LEVEL 0", y.learns(), 2);
        Check.eq("37: of LEVEL 0 it is 200", y.mic(0, 3) + y.mic(1, 3), 400);
        y.holds(1, 1);
        y.holds(2, 4);
        Check.refused("37: all are QUIET", y, -2, MicRow::learns);
        MicRow z = new MicRow();
        Check.refused("37: there are none", z, -2, MicRow::learns);
    }

    private static void promise38Sorts() {
        MicRow x = Check.with("00,01,02", "+010488");
        x.holds(0, 32);
        x.sets(1, 0, 50);
        x.sets(2, 3, 1);
        Check.mark(x);
        Check.eq("38: the CLIPPED and the QUIET one", x.sorts(12), 2);
        Check.eq("38: one is LIVE", x.count(2), 2);
        Check.refused("38: it is so", x, -2, y -> y.sorts(1));
        Check.eq("38: 12 are less than 13", x.sorts(13), 1);
        Check.eq("38: all others are not", x.count(2), 3);
        Check.eq("38: done ones can be undone", x.count(6), 7);
        x.sets(1, 4, 1);
        x.sets(2, 4, 0);
        x.sets(2, 3, 0);
        Check.eq("38: none is OUT", x.sorts(13), 0);
        Check.eq("38: all are LIVE", x.count(2), 7);
        int[] wrong = {0, 49, -1, Integer.MAX_VALUE, Integer.MIN_VALUE};
        for (int one : wrong) {
            Check.refused("38: sorts(" + one + ")", x, -1, y -> y.sorts(one));
        }
        Check.refused("38: sorts(48) changes nothing", x, -2, y -> y.sorts(48));
        Check.eq("38: the ROW stays", x.count(7), 3);
    }

    private static void promise39Aims() {
        MicRow x = Check.with("00,01", "+3254;-8187");
        Check.mark(x);
        Check.eq("39: DIRECTION", x.aims(0, 0, -8), 11);
        Check.eq("39: it is so then", x.source(0, 0), -8);
        Check.eq("39: DIRECTION from -8", x.aims(1, 0, 8), 0);
        Check.eq("39: LOUD", x.aims(1, 1, 9), 1);
        Check.eq("39: it is so then", x.source(1, 1), 9);
        Check.eq("39: LOUD of the first", x.aims(0, 1, 1), 2);
        Check.eq("39: they can be undone", x.count(6), 6);
        Check.refused("39: DIRECTION is so", x, -2, y -> y.aims(1, 0, 8));
        Check.refused("39: LOUD is so", x, -2, y -> y.aims(1, 1, 9));
        int[][] wrong = {{-1, 0, 0}, {2, 0, 0}, {0, -1, 1}, {0, 2, 1}, {0, 0, 9}, {0, 0, -9}, {0, 1, 0}, {0, 1, 10}, {4, 0, 0}};
        for (int[] one : wrong) {
            Check.refused("39: aims(" + one[0] + ", " + one[1] + ", " + one[2] + ")", x, -1, y -> y.aims(one[0], one[1], one[2]));
        }
    }

    private static void promise40Goes() {
        MicRow x = Check.with("00,01", "+3254;-8187654;+1112");
        Check.mark(x);
        Check.eq("40: two are left", x.goes(0), 2);
        Check.eq("40: a number less", x.source(0, 0), -8);
        Check.eq("40: its steps too", x.source(0, 2), 5);
        Check.eq("40: its last step", x.source(0, 7), 0);
        Check.eq("40: a number less", x.source(1, 0), 1);
        Check.none("40: no third one", () -> x.source(2, 0));
        Check.refused("40: goes(2)", x, -1, y -> y.goes(2));
        Check.refused("40: goes(-1)", x, -1, y -> y.goes(-1));
        Check.eq("40: the last one", x.goes(1), 1);
        Check.eq("40: the first stays", x.source(0, 0), -8);
        Check.eq("40: none is left", x.goes(0), 0);
        Check.refused("40: none such", x, -1, y -> y.goes(0));
        Check.eq("40: each can be undone", x.undo() + x.undo() + x.undo(), 4 + 3 + 2);
        Check.eq("40: undone", x.count(1), 3);
        Check.eq("40: in the order they had", x.source(1, 0), -8);
        Check.eq("40: the ROW stays", x.count(7), 3);
    }

    private static void promise41Day() {
        MicRow x = Check.with("00,01", "+810088;-2254");
        Check.eq("41: nothing", Check.day(x, ""), 0);
        Check.row("41: nothing", x, 0, 3);
        Check.eq("41: nothing can't be undone", x.count(6), 2);
        Check.eq("41: all kinds", Check.day(x, "g0050w17d11o01c0300b005ls48a1+0"), 9);
        Check.row("41: sorts() turns OUT about", x, 0, 1);
        Check.eq("41: as one", x.count(6), 3);
    }

    private static void promise41Stops() {
        MicRow x = Check.with("00,01", "+810088;-2254");
        Check.eq("41: GAIN, WIND, OUT", Check.day(x, "g0050w17o01"), 3);
        Check.row("41: three done", x, 0, 2);
        Check.eq("41: GAIN", x.mic(0, 1), 50);
        Check.eq("41: WIND", x.mic(1, 2), 7);
        Check.eq("41: OUT", x.mic(0, 5), 1);
        Check.eq("41: as one", x.count(6), 3);
        Check.eq("41: DEAD, CLIP, BEGIN", Check.day(x, "d11c0300b005"), 3);
        Check.eq("41: DEAD", x.mic(1, 4), 1);
        Check.eq("41: CLIP", x.count(3), 300);
        Check.eq("41: BEGIN", x.count(4), 5);
        Check.eq("41: learns(), sorts(), aims()", Check.day(x, "ls48a1+0"), 3);
        Check.row("41: the DEAD one is OUT, the other one not", x, 0, 1);
        Check.eq("41: DIRECTION", x.source(1, 0), 0);
        Check.eq("41: a minus", Check.day(x, "a0-8a1-3"), 2);
        Check.eq("41: a minus", x.source(0, 0), -8);
        Check.eq("41: till one can't be", Check.day(x, "b009w17b010"), 1);
        Check.row("41: one could not be", x, 1, 1);
        Check.eq("41: not those behind it", x.count(4), 9);
        int undone = x.count(6);
        String[] none = {"g0000", "g2100", "g0401", "w21", "d02", "o02", "c0000", "b201", "s00", "s49", "a2+0", "b009", "a0-8"};
        for (String one : none) {
            Check.eq("41: " + one + " can't be", Check.day(x, one + "b077"), 0);
            Check.row("41: " + one, x, 1, 1);
            Check.eq("41: " + one + " leaves nothing to undo", x.count(6), undone);
            Check.eq("41: nothing behind " + one, x.count(4), 9);
        }
        Check.eq("41: learns() of QUIET ones alone", Check.day(x, "d01l"), 1);
        Check.row("41: it could not be", x, 1, 1);
        x.undo();
        Check.eq("41: undone as one", x.mic(0, 4), 0);
        Check.eq("41: learns() that changes none is done", Check.day(x, "ll"), 2);
        Check.eq("41: and can be undone", x.count(6), undone + 1);
    }

    private static void promise41Wrong() {
        Object[][] all = {
            {"x", -1}, {"0", -1}, {"g", -2}, {"gx", -2}, {"g0", -3}, {"g005", -5}, {"g00x0", -4}, {"g0050x", -6}, {"w", -2},
            {"w0", -3}, {"w0x", -3}, {"d0", -3}, {"o0", -3}, {"dx", -2}, {"ox", -2}, {"c", -2}, {"c123", -5}, {"c12x4", -4},
            {"b", -2}, {"b12", -4}, {"bx", -2}, {"lx", -2}, {"s", -2}, {"s1", -3}, {"s1x", -3}, {"a", -2}, {"a0", -3},
            {"a0+", -4}, {"a0+9", -4}, {"a00", -3}, {"a0 8", -3}, {"a+8", -2}, {"g0050 w17", -6}, {"g0050w1", -8},
            {"g0050,w17", -6}, {"e05", -1}, {"L", -1}, {"lll9", -4}};
        for (Object[] one : all) {
            MicRow x = Check.with("00,01", "+810088");
            Check.mark(x);
            Check.say(x, (String) one[0]);
            Check.refused("41: day of " + one[0], x, (Integer) one[1], MicRow::day);
            Check.eq("41: THE TEXT is emptied", x.count(8), 0);
        }
        MicRow x = Check.with("00,01", "+810088");
        Check.eq("41: 80 signs", Check.day(x, "l".repeat(80)), 80);
        Check.row("41: 80 signs", x, 0, 3);
    }

    private static void promise42Undo() {
        MicRow x = Check.with("00,01", "+810088");
        Check.mark(x);
        long[] start = Check.seen(x);
        Check.eq("42: undo of sets()", x.sets(0, 0, 5) + x.undo(), 100 + 2);
        Check.yes("42: as ahead of it", java.util.Arrays.equals(start, Check.seen(x)));
        x.holds(2, 5);
        x.moves(1, 30);
        x.sets(1, 0, 40);
        x.learns();
        x.sets(0, 3, 1);
        x.sorts(5);
        long[] then = Check.seen(x);
        x.aims(0, 1, 9);
        Check.eq("42: undo of aims()", x.undo(), 7);
        then[6] = 7;
        Check.yes("42: as ahead of aims()", java.util.Arrays.equals(then, Check.seen(x)));
        for (int left = 6; left >= 0; left--) {
            Check.eq("42: back", x.undo(), left);
        }
        Check.refused("42: none", x, -1, MicRow::undo);
        Check.eq("42: MICS of mics() stay, of 8 that are kept", x.count(0), 2);
        Check.eq("42: SOURCES were undone", x.count(1), 0);
        Check.sources(x, "+3254");
        Check.mics(x, "07");
        x.undo();
        Check.eq("42: undo of mics()", x.mic(1, 0), 1);
        Check.eq("42: undo of sources()", x.undo(), 0);
        Check.eq("42: undo of sources()", x.count(1), 0);
        x.keep(0);
        x.sets(0, 0, 9);
        Check.no("42: again() refused", x.again(1));
        Check.eq("42: again() refused forgets nothing", x.count(6), 1);
        Check.yes("42: again()", x.again(0));
        Check.eq("42: again() forgets them", x.undo(), -1);
        x.sign(0x30303030);
        x.sets(0, 0, 9);
        x.undo();
        Check.eq("42: THE TEXT stays", x.count(8), 4);
    }

    private static void promise42Eight() {
        MicRow x = Check.with("00", "");
        for (int v = 1; v <= 20; v++) {
            x.sets(0, 0, v);
        }
        Check.eq("42: 8 are kept", x.count(6), 8);
        for (int left = 7; left >= 0; left--) {
            Check.eq("42: left", x.undo(), left);
            Check.eq("42: the latest ones", x.mic(0, 1), 12 + left);
        }
        Check.eq("42: no more", x.undo(), -1);
        Check.eq("42: it stays", x.mic(0, 1), 12);
        Check.day(x, "g0001g0002g0003");
        x.undo();
        Check.eq("42: A DAY is one", x.mic(0, 1), 12);
    }

    private static void promise43Years() {
        MicRow x = Check.with("00,01,02,03,04,05", "+810088");
        Check.mark(x);
        int[] wrong = {0, 31, -1, Integer.MAX_VALUE, Integer.MIN_VALUE};
        for (int one : wrong) {
            Check.refused("43: years(1, " + one + ")", x, -1, y -> y.years(1, one));
        }
        // R is 1103527590, by 65536 16838: 2; then 38526: 0; then 10113: 213
        years(x, 1, 0, 0, 214);
        // 0: 0; then 54236: 2; then 42756: 6
        years(x, 0, 2, 1, 6);
        // 18655: 1; then 41225: 5; then 10616: 0, which is so
        Check.eq("43: what is refused is not done", x.years(5, 1), 63);
        // R is 2207042835, 33676: 1; then 22817: 5; then 43007: 1
        Check.eq("43: MIC 5 would be OUT", x.years(2, 1), 31);
        Check.eq("43: it is forgotten", x.count(2), 63);
        Check.eq("43: nothing to undo", x.count(6), 2);
        Check.eq("43: one number", x.count(7), 1);
        long told = x.row(0);
        x.sets(5, 4, 1);
        Check.eq("43: LEVEL of BEAM to 0 then", x.beams(0), told);
    }

    /** One year is as sets() of this: all MICS are LIVE, the ROW is LEVEL of BEAM. */
    private static void years(MicRow x, int seed, int m, int what, int v) {
        Check.eq("43: all are LIVE", x.years(seed, 1), 63);
        long told = x.row(0);
        x.sets(m, what, v);
        Check.eq("43: LEVEL of BEAM of seed " + seed, x.beams(0), told);
        x.undo();
    }

    /** Plays years() by sets() with DRAWS of its own. */
    private static void promise43Draws() {
        for (int seed : new int[] {0, 7, -1, 123456789, Integer.MIN_VALUE, Integer.MAX_VALUE}) {
            MicRow x = Check.with("00,01,03,04", "+810088;-3154");
            long[] ahead = Check.seen(x);
            int live = x.years(seed, 30);
            long told = x.row(0);
            ahead[7] = 1;
            Check.eq("43: all is as it was", x.count(2) * 100 + x.count(6), ahead[2] * 100 + ahead[6]);
            for (int m = 0; m < 4; m++) {
                Check.eq("43: GAIN is as it was", x.mic(m, 1), 100);
                Check.eq("43: WIND is as it was", x.mic(m, 2), 0);
            }
            long r = seed & 0xffffffffL;
            long[] drawn = new long[3];
            for (int i = 0; i < 30; i++) {
                for (int k = 0; k < 3; k++) {
                    r = (r * 1103515245L + 12345L) & 0xffffffffL;
                    long of = k == 0 ? 3 : k == 1 ? 6 : drawn[0] == 0 ? 10 : drawn[0] == 1 ? 2 : 300;
                    drawn[k] = r / 65536 % of;
                }
                int what = drawn[0] == 0 ? 1 : drawn[0] == 1 ? 4 : 0;
                x.sets((int) drawn[1], what, (int) drawn[2] + (what == 0 ? 1 : 0));
            }
            Check.eq("43: LIVE MICS of seed " + seed, live, x.count(2));
            Check.eq("43: LEVEL of seed " + seed, told, x.beams(0));
        }
    }
}
