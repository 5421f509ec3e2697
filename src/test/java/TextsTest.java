/** Promises 1 to 6: a new object, THE TEXT, MICS and SOURCES told as texts, sheets. */
public final class TextsTest {
    public static void main(String[] args) {
        promise1NewObject();
        promise2Sign();
        promise3End();
        promise4Mics();
        promise4Wrong();
        promise5Sources();
        promise5Wrong();
        promise6Sheet();
        promise6Wrong();
        Check.finish();
    }

    private static void promise1NewObject() {
        MicRow x = new MicRow();
        long[] due = {0, 0, 0, 9999, 0, 16, 0, 0, 0};
        for (int what = 0; what < due.length; what++) {
            Check.eq("1: count(" + what + ") of a new object", x.count(what), due[what]);
        }
        Check.none("1: mic(0, 0)", () -> x.mic(0, 0));
        Check.none("1: source(0, 0)", () -> x.source(0, 0));
        Check.none("1: row(0)", () -> x.row(0));
        Check.eq("1: undo() of a new object", x.undo(), -1);
        Check.no("1: again(0) of a new object", x.again(0));
        Check.eq("1: NONE", MicRow.NONE, -1);
    }

    private static void promise2Sign() {
        MicRow x = new MicRow();
        for (int n = 4; n <= 80; n += 4) {
            Check.eq("2: sign", x.sign('l' << 24 | 'l' << 16 | 'l' << 8 | 'l'), n);
        }
        Check.eq("2: sign beyond 80", x.sign(0), -1);
        Check.eq("2: THE TEXT stays", x.count(8), 80);
        Check.yes("2: end(77)", x.end(77));
        Check.eq("2: sign from 77 to 81", x.sign(0), -1);
        Check.eq("2: it stays 77", x.count(8), 77);
        Check.yes("2: end(76)", x.end(76));
        Check.eq("2: sign from 76 to 80", x.sign(0), 80);
        MicRow y = new MicRow();
        y.sign('0' << 24 | '7' << 16 | ',' << 8 | '2');
        y.sign('9' << 24);
        y.end(5);
        Check.eq("2: the highest byte is first", y.mics(), 2);
        Check.eq("2: 07", y.mic(0, 0), 7);
        Check.eq("2: 29", y.mic(1, 0), 29);
        y.sign(0xB0B70000);
        y.end(2);
        Check.eq("2: bytes above 127 are no digits", y.mics(), -1);
    }

    private static void promise3End() {
        MicRow x = new MicRow();
        Check.yes("3: end(0) of an empty one", x.end(0));
        Check.no("3: end(1) of an empty one", x.end(1));
        x.sign('0' << 24 | '3' << 16 | 'x' << 8 | 'x');
        Check.no("3: end(5)", x.end(5));
        Check.no("3: end(-1)", x.end(-1));
        Check.no("3: end(Integer.MIN_VALUE)", x.end(Integer.MIN_VALUE));
        Check.no("3: end(Integer.MAX_VALUE)", x.end(Integer.MAX_VALUE));
        Check.eq("3: refused, it stays", x.count(8), 4);
        Check.yes("3: end(4)", x.end(4));
        Check.eq("3: as many as there are", x.count(8), 4);
        Check.yes("3: end(2)", x.end(2));
        Check.eq("3: two", x.count(8), 2);
        Check.eq("3: the first two", x.mics(), 1);
        Check.eq("3: PLACE", x.mic(0, 0), 3);
        Check.eq("3: a call that reads it empties it", x.count(8), 0);
    }

    private static void promise4Mics() {
        MicRow x = new MicRow();
        Check.eq("4: six", Check.mics(x, "00,01,09,10,39,40"), 6);
        long[] places = {0, 1, 9, 10, 39, 40};
        for (int m = 0; m < 6; m++) {
            long[] due = {places[m], 100, 0, 100, 0, 0};
            for (int what = 0; what < 6; what++) {
                Check.eq("4: mic(" + m + ", " + what + ")", x.mic(m, what), due[what]);
            }
        }
        Check.eq("4: THE TEXT is empty", x.count(8), 0);
        Check.eq("4: it can be undone", x.count(6), 1);
        x.sets(1, 0, 7);
        x.sets(1, 1, 7);
        x.sets(1, 2, 7);
        x.sets(1, 3, 1);
        x.sets(1, 4, 1);
        Check.eq("4: anew", Check.mics(x, "05,06"), 2);
        long[] due = {6, 100, 0, 100, 0, 0};
        for (int what = 0; what < 6; what++) {
            Check.eq("4: anew, mic(1, " + what + ")", x.mic(1, what), due[what]);
        }
        Check.eq("4: an empty one", Check.mics(x, ""), 0);
        Check.eq("4: none", x.count(0), 0);
        Check.eq("4: empty again", Check.mics(x, ""), 0);
        Check.eq("4: each could be undone, of 8 that are kept", x.count(6), 8);
    }

    private static void promise4Wrong() {
        Object[][] all = {
            {"x", -1}, {",", -1}, {"0", -2}, {"0x", -2}, {"9", -2}, {"99", -2}, {"41", -2}, {"50", -2}, {"4", -2},
            {"03,", -4}, {"03;", -3}, {"033", -3}, {"03,x", -4}, {"03,0", -5}, {"03,03", -5}, {"03,02", -5}, {"03,1,", -5},
            {"03,,", -4}, {"00,01,02,03,04,05,", -18}, {"00,01,02,03,04,05,06", -18}, {"00,01,02,03,04,05x", -18},
            {"00,01,02,03,04,41", -17}, {" 03", -1}, {"03,04,", -7}, {"3,04", -2}};
        for (Object[] one : all) {
            MicRow x = Check.with("03,20", "+3254");
            Check.mark(x);
            Check.say(x, (String) one[0]);
            Check.refused("4: mics of " + one[0], x, (Integer) one[1], MicRow::mics);
            Check.eq("4: THE TEXT is emptied", x.count(8), 0);
        }
    }

    private static void promise5Sources() {
        MicRow x = new MicRow();
        Check.eq("5: four", Check.sources(x, "+8108;-0948;-81876543210123;+35444444444444"), 4);
        long[][] due = {{8, 1, 2, -4, 4}, {0, 9, 2, 0, 4}, {-8, 1, 12, 4, 3, 2, 1, 0, -1, -2, -3, -4, -3, -2, -1}};
        Check.eq("5: how many", Check.sources(x, "+8108;-0948;-81876543210123"), 3);
        for (int s = 0; s < due.length; s++) {
            for (int what = 0; what < due[s].length; what++) {
                Check.eq("5: source(" + s + ", " + what + ")", x.source(s, what), due[s][what]);
            }
        }
        Check.eq("5: in place of those", Check.sources(x, "-3566"), 1);
        Check.eq("5: DIRECTION", x.source(0, 0), -3);
        Check.none("5: no second one", () -> x.source(1, 0));
        Check.eq("5: an empty one", Check.sources(x, ""), 0);
        Check.eq("5: none", x.count(1), 0);
        Check.eq("5: four that can be undone", x.count(6), 4);
        Check.eq("5: THE TEXT is empty", x.count(8), 0);
    }

    private static void promise5Wrong() {
        Object[][] all = {
            {"x", -1}, {"8", -1}, {";", -1}, {"+", -2}, {"+9", -2}, {"+x", -2}, {"+8", -3}, {"+80", -3}, {"+8x", -3},
            {"+81", -4}, {"+81;", -4}, {"+819", -4}, {"+818", -5}, {"+818;", -5}, {"+8189", -5}, {"+8188x", -6},
            {"+81889", -6}, {"+8188;", -7}, {"+8188,", -6}, {"+8188;8", -7}, {"+8188;+", -8}, {"+8188;+9", -8}, {"+8188;+80", -9}, {"+8188;+81;", -10}, {"+8188;+818;", -11}, {"+81888888888888", 1},
            {"+818888888888888", -16}, {"+818888888888888;", -16}, {"+81888888888888x", -16},
            {"+8188;+8188;+8188;+8188;", -24}, {"+8188;+8188;+8188;+8188;+8188", -24}, {"+8188;+8188;+8188;", -19},
            {"-8188;-8188;-8188;-9188", -20}};
        for (Object[] one : all) {
            if ((Integer) one[1] > 0) {
                MicRow y = new MicRow();
                Check.eq("5: sources of " + one[0], Check.sources(y, (String) one[0]), (Integer) one[1]);
                continue;
            }
            MicRow x = Check.with("03,20", "+3254;-4187");
            Check.mark(x);
            Check.say(x, (String) one[0]);
            Check.refused("5: sources of " + one[0], x, (Integer) one[1], MicRow::sources);
            Check.eq("5: THE TEXT is emptied", x.count(8), 0);
        }
    }

    private static void gains(String what, MicRow x, long... due) {
        for (int m = 0; m < due.length; m++) {
            Check.eq(what + ": GAIN of " + m, x.mic(m, 1), due[m]);
        }
    }

    private static void promise6Sheet() {
        MicRow x = Check.with("00,01,02,03", "");
        Check.mark(x);
        Check.eq("6: ints", x.sheet(2, 3, 99, 1), 2);
        gains("6: ints", x, 99, 100, 101, 100);
        Check.eq("6: the same again", x.sheet(2, 3, 99, 1), 0);
        Check.eq("6: bytes", x.sheet(0, 4, 127, 1), 4);
        gains("6: bytes turn below 0 behind 127", x, 127, 1, 1, 1);
        Check.eq("6: bytes, the lowest bits", x.sheet(0, 2, 256 * 7 + 5, 256), 2);
        gains("6: bytes, the lowest bits", x, 5, 5, 1, 1);
        Check.eq("6: shorts", x.sheet(1, 3, 32767, 1), 2);
        gains("6: shorts", x, 400, 1, 1, 1);
        Check.eq("6: shorts, the lowest bits", x.sheet(1, 1, 65536 * 3 + 77, 0), 1);
        gains("6: shorts, the lowest bits", x, 77, 1, 1, 1);
        Check.eq("6: ints that wrap", x.sheet(2, 2, Integer.MAX_VALUE, 1), 1);
        gains("6: ints that wrap", x, 400, 1, 1, 1);
        Check.eq("6: held to 1 and 400", x.sheet(2, 4, 401, -201), 1);
        gains("6: held to 1 and 400", x, 400, 200, 1, 1);
        Check.eq("6: no entries", x.sheet(2, 0, 5, 5), 0);
        Check.eq("6: more entries than MICS", x.sheet(2, 6, 10, 10), 4);
        gains("6: more entries than MICS", x, 10, 20, 30, 40);
        Check.eq("6: nothing is kept of it", x.count(6), 2);
        Check.row("6: the ROW stays", x, 0, 0, 0);
    }

    private static void promise6Wrong() {
        MicRow x = Check.with("00,01,02,03", "");
        Check.refused("6: kind -1", x, -1, y -> y.sheet(-1, 1, 5, 5));
        Check.refused("6: kind 4", x, -1, y -> y.sheet(4, 1, 5, 5));
        Check.refused("6: kind 4, n below 0", x, -1, y -> y.sheet(4, -1, 5, 5));
        Check.refused("6: n 7", x, -1, y -> y.sheet(0, 7, 5, 5));
        Check.refused("6: n 7 of a missing one", x, -1, y -> y.sheet(3, 7, 5, 5));
        Check.refused("6: missing", x, -3, y -> y.sheet(3, 2, 5, 5));
        Check.refused("6: missing, n below 0", x, -3, y -> y.sheet(3, -1, 5, 5));
        for (int kind = 0; kind < 3; kind++) {
            int k = kind;
            Check.refused("6: n below 0", x, -2, y -> y.sheet(k, -1, 5, 5));
            Check.refused("6: n far below 0", x, -2, y -> y.sheet(k, Integer.MIN_VALUE, 5, 5));
        }
        Check.eq("6: as the latest change is undone, what sheets did ahead of it stays",
            x.sheet(2, 1, 50, 0) + x.sets(0, 1, 3) + x.undo(), 1 + 0 + 2);
        gains("6: undone", x, 50);
        Check.eq("6: what they did behind it goes with it", x.sets(0, 1, 3) + x.sheet(2, 1, 60, 0) + x.undo(), 0 + 1 + 2);
        gains("6: undone with it", x, 50);
    }
}
