import java.util.List;

/** Promises 44 to 47: what is kept, counted, told. */
final class EdgesOfKept {
    private static final int LEAST = Integer.MIN_VALUE;
    private static final int MOST = Integer.MAX_VALUE;

    private EdgesOfKept() {
    }

    static void all() {
        keep();
        again();
        count();
        row();
    }

    private static void keep() {
        Edges.edge(44, "All that 1. tells of is kept under a number 0 .. 1: true.", () -> {
            for (int i = 0; i < 2; i++) {
                MicRow x = Twins.rich();
                List<Long> ahead = Twins.scene(x);
                Check.yes("keep(" + i + ")", x.keep(i));
                Check.eq("as much can be undone", x.count(6), 8);
                Check.mics(x, "00,01,02,03,04,05");
                Check.sources(x, "+0108;+0108;+0108;+0108");
                x.holds(0, 1);
                x.holds(1, 0);
                x.holds(2, 48);
                Check.yes("again(" + i + ")", x.again(i));
                Check.yes("all", ahead.equals(Twins.scene(x)));
                Check.yes("the other number", x.again(1 - i));
                Check.no("is another one", ahead.equals(Twins.scene(x)));
            }
            MicRow x = Check.with("00", "");
            x.keep(0);
            x.sets(0, 0, 7);
            Check.yes("kept anew", x.keep(0));
            x.sets(0, 0, 8);
            Check.eq("the later one", (x.again(0) ? 1 : 0) + x.mic(0, 1), 1 + 7);
        });
        Edges.edge(44, "Refused: others.", () -> {
            for (int i : new int[] {-1, 2, LEAST, MOST}) {
                Twins.stays("keep(" + i + ")", Twins::rich, 0, x -> x.keep(i) ? 1 : 0);
            }
        });
    }

    private static void again() {
        Edges.edge(45, "It is as it was kept under a number.", () -> {
            MicRow x = Twins.rich();
            x.keep(0);
            List<Long> kept = Twins.scene(x);
            x.sets(0, 1, 9);
            Check.yes("again(0)", x.again(0));
            Check.yes("as it was", kept.equals(Twins.scene(x)));
            x.sheet(2, 4, 9, 9);
            Check.yes("once more", x.again(0));
            Check.yes("what is kept stays", kept.equals(Twins.scene(x)));
            Check.eq("THE TEXT stays", x.count(8), 2);
            Check.eq("the ROW stays", x.count(7), 3);
            MicRow y = new MicRow();
            y.keep(1);
            Check.mics(y, "00");
            Check.yes("again(1)", y.again(1));
            Check.eq("a new one", y.count(0), 0);
            MicRow z = EdgesOfDays.full();
            List<Long> full = Twins.scene(z);
            z.keep(1);
            Check.sources(z, "-01000000000000;-01000000000000;-01000000000000;-01000000000000");
            Check.mics(z, "00,01,02,03,04,05");
            Check.yes("again(1)", z.again(1));
            Check.yes("six MICS, four SOURCES of twelve steps", full.equals(Twins.scene(z)));
        });
        Edges.edge(45, "Refused: nothing kept.", () -> {
            for (int i : new int[] {0, 1, -1, 2, LEAST, MOST}) {
                Twins.stays("again(" + i + ")", EdgesOfKept::unkept, 0, x -> x.again(i) ? 1 : 0);
            }
            MicRow x = unkept();
            x.keep(0);
            Check.no("nothing under 1", x.again(1));
            x.keep(2);
            Check.no("nothing under 2", x.again(2));
        });
    }

    private static MicRow unkept() {
        MicRow x = Check.with("02,05", "+3254871");
        x.beams(2);
        return x;
    }

    private static void count() {
        Edges.edge(46, "What 0: MICS, 1: SOURCES, 2: LIVE ones (bits), 3: CLIP, 4: BEGIN, 5: LONG, 6: what can be undone,"
            + " 7: numbers of the ROW, 8: signs of THE TEXT.", () -> {
            MicRow x = Twins.rich();
            long[] due = {4, 2, 13, 300, 7, 9, 8, 3, 2};
            long[] ofNew = {0, 0, 0, 9999, 0, 16, 0, 0, 0};
            MicRow y = new MicRow();
            for (int what = 0; what < due.length; what++) {
                Check.eq("count(" + what + ")", x.count(what), due[what]);
                Check.eq("count(" + what + ") of a new object", y.count(what), ofNew[what]);
            }
        });
        Edges.edge(46, "NONE for another what.", () -> {
            for (int what : new int[] {-1, 9, LEAST, MOST}) {
                Twins.stays("count(" + what + ")", Twins::rich, -1, x -> x.count(what));
            }
        });
    }

    private static void row() {
        Edges.edge(47, "Number i of the ROW.", () -> {
            MicRow x = Check.with("00,08", "+210088");
            x.doubtful();
            long[] due = {2, 6, 10, 14};
            for (int i = 0; i < due.length; i++) {
                Check.eq("row(" + i + ")", x.row(i), due[i]);
            }
        });
        Edges.edge(47, "NoSuchElementException: none such.", () -> {
            for (int i : new int[] {-1, 3, 16, 17, LEAST, MOST}) {
                Twins.none("row(" + i + ") of three", Twins::rich, x -> x.row(i));
            }
            Twins.none("of an empty ROW", MicRow::new, x -> x.row(0));
            MicRow x = Twins.rich();
            x.pattern();
            Check.yes("the last of 17", x.row(16) >= 0);
            Check.none("row(17)", () -> x.row(17));
            x.loudest(0);
            Check.none("numbers told ahead are gone", () -> x.row(1));
        });
    }
}
