/** Promises 26 to 33: what would be. */
final class EdgesOfWouldBe {
    private static final int LEAST = Integer.MIN_VALUE;
    private static final int MOST = Integer.MAX_VALUE;
    private static final int[] NO_DIRECTION = {-9, 9, LEAST, MOST};
    private static final int[] NO_MIC = {-1, 4, LEAST, MOST};
    /** Each MIC hears what the one ahead of it heard one SAMPLE before: -32, -32, 32, 32 in turns. */
    private static final String THREE = "00,01,02";
    private static final String FOURS = "+810088";

    private EdgesOfWouldBe() {
    }

    static void all() {
        without();
        worst();
        best();
        masks();
        nulled();
        behind();
        behindRefused();
        later();
        settles();
        settlesNever();
    }

    private static void without() {
        Edges.edge(26, "POWER of BEAM to b, were MIC m OUT, too;", () -> {
            MicRow x = Check.with(THREE, FOURS);
            Check.eq("0 and 2 take each other off", x.without(1, 0), 0);
            Check.eq("1 and 2", x.without(0, 0), 512);
            Check.eq("0 and 1", x.without(2, 0), 512);
            Check.eq("to 8", x.without(0, 8), 1024);
            x.sets(0, 4, 1);
            Check.eq("2 alone", x.without(1, 0), 1024);
            Check.eq("OUT ones stay as they are", x.count(2), 6);
        });
        Edges.edge(26, "the ROW: POWER now.", () -> {
            MicRow x = Check.with(THREE, FOURS);
            x.without(1, 0);
            Check.row("10, 10, -10, -10", x, 100);
            x.sets(0, 4, 1);
            x.without(1, 0);
            Check.row("of two", x, 512);
        });
        Edges.edge(26, "-2: no MIC would be LIVE;", () -> {
            Twins.stays("the last one", Twins::oneLive, -2, x -> x.without(0, 0));
            Twins.stays("the last one to 8", Twins::oneLive, -2, x -> x.without(0, 8));
        });
        Edges.edge(26, "NONE: none such, it is OUT already, another b.", () -> {
            for (int m : NO_MIC) {
                Twins.stays("none such " + m, Twins::rich, -1, x -> x.without(m, 0));
            }
            Twins.stays("it is OUT", Twins::rich, -1, x -> x.without(1, 0));
            Twins.stays("all are OUT", Twins::noneLive, -1, x -> x.without(0, 0));
            for (int b : NO_DIRECTION) {
                Twins.stays("b " + b, Twins::rich, -1, x -> x.without(0, b));
                Twins.stays("it comes first", Twins::oneLive, -1, x -> x.without(0, b));
            }
        });
    }

    private static void worst() {
        Edges.edge(27, "The LIVE MIC without which POWER of CLEAN to b would be least", () -> {
            MicRow x = Check.with(THREE, FOURS);
            Check.eq("without 1 nothing is left", x.worst(0), 1);
            x.sets(1, 0, 10);
            Check.eq("without 1, too", x.worst(0), 1);
            MicRow y = Check.with(THREE, FOURS);
            y.sets(2, 0, 50);
            y.sets(0, 4, 1);
            // 2 alone has 256, 1 alone 1024
            Check.eq("LIVE ones alone", y.worst(0), 1);
            y.sets(2, 0, 200);
            Check.eq("the last one", y.worst(0), 2);
        });
        Edges.edge(27, "(of equal ones the first): it;", () -> {
            Check.eq("all are equal", Check.with(THREE, FOURS).worst(8), 0);
            Check.eq("nothing is heard", Check.with(THREE, "").worst(0), 0);
            MicRow x = Check.with(THREE, "");
            x.sets(0, 4, 1);
            Check.eq("of LIVE ones the first", x.worst(-8), 1);
        });
        Edges.edge(27, "the ROW: that POWER.", () -> {
            MicRow x = Check.with(THREE, FOURS);
            x.worst(8);
            Check.row("of two", x, 1024);
            x.sets(2, 0, 50);
            // 0 and 2: BEAM -8, -8, 8, 8 and BLOCKED -48, -48, 48, 48: 3 leaves 1
            x.worst(0);
            Check.row("weights are learnt anew", x, 1);
        });
        Edges.edge(27, "-2: less than two are LIVE;", () -> {
            Twins.stays("one", Twins::oneLive, -2, x -> x.worst(0));
            Twins.stays("none", Twins::noneLive, -2, x -> x.worst(8));
            Twins.stays("no MICS", MicRow::new, -2, x -> x.worst(-8));
            Check.yes("two can", Check.with("00,01", FOURS).worst(0) >= 0);
        });
        Edges.edge(27, "NONE: another b.", () -> {
            for (int b : NO_DIRECTION) {
                Twins.stays("worst(" + b + ")", Twins::rich, -1, x -> x.worst(b));
                Twins.stays("it comes first", Twins::noneLive, -1, x -> x.worst(b));
            }
        });
    }

    private static void best() {
        Edges.edge(28, "The set of n (1 .. 6) of all MICS that, LIVE alone, has the least POWER of BEAM to b", () -> {
            MicRow x = Check.with(THREE, FOURS);
            Check.eq("two", x.best(2, 0), 5);
            x.sets(0, 4, 1);
            x.sets(2, 4, 1);
            Check.eq("OUT ones too", x.best(2, 0), 5);
            Check.eq("all", x.best(3, 0), 7);
            x.sets(2, 0, 99);
            Check.eq("one", x.best(1, 0), 4);
            Check.eq("six of six", Check.with("00,01,02,03,04,05", FOURS).best(6, 0), 63);
        });
        Edges.edge(28, "(of equal ones the least number as bits): it;", () -> {
            MicRow x = Check.with("00,01,02,03,04,05", FOURS);
            int[] due = {1, 3, 7, 15, 31, 63};
            for (int n = 1; n <= 6; n++) {
                Check.eq("to 8 all are equal, of " + n, x.best(n, 8), due[n - 1]);
            }
            // 0 and 2, 1 and 3, 2 and 4, 3 and 5, 0 and 3 .. not
            Check.eq("of 5, 10, 20, 40", x.best(2, 0), 5);
            x.sets(0, 0, 110);
            Check.eq("of 10, 20, 40", x.best(2, 0), 10);
        });
        Edges.edge(28, "the ROW: POWER.", () -> {
            MicRow x = Check.with(THREE, FOURS);
            x.best(1, 0);
            Check.row("one", x, 1024);
            x.best(2, 0);
            Check.row("two", x, 0);
            x.best(3, 0);
            Check.row("three", x, 100);
        });
        Edges.edge(28, "-2: there are less than n;", () -> {
            Twins.stays("5 of 4", Twins::rich, -2, x -> x.best(5, 0));
            Twins.stays("6 of 4", Twins::rich, -2, x -> x.best(6, 0));
            Twins.stays("no MICS", MicRow::new, -2, x -> x.best(1, 0));
            Check.eq("4 of 4, though one is OUT", Twins.rich().best(4, 0), 15);
        });
        Edges.edge(28, "NONE: others.", () -> {
            for (int n : new int[] {0, 7, -1, LEAST, MOST}) {
                Twins.stays("n " + n, Twins::rich, -1, x -> x.best(n, 0));
            }
            for (int b : NO_DIRECTION) {
                Twins.stays("b " + b, Twins::rich, -1, x -> x.best(1, b));
                Twins.stays("it comes first", Twins::rich, -1, x -> x.best(5, b));
            }
        });
    }

    private static void masks() {
        Edges.edge(29, "The SOURCE but for which POWER of BEAM to b would be least", () -> {
            MicRow x = Check.with("00,01", "+0108;+0308;+0208");
            Check.eq("the loudest", x.masks(0), 1);
            Check.sources(x, "+0308;+0380;+0180");
            Check.eq("the other two take each other off", x.masks(0), 2);
            Check.eq("SOURCES stay", x.count(1), 3);
            Check.eq("of one", Check.with("00", "+0308").masks(0), 0);
            Check.sources(x, "+0108;+0180");
            Check.eq("with both it is 0, but for one not", x.masks(0), 0);
            Check.row("with both it is 0, but for one not", x, 1024);
        });
        Edges.edge(29, "(of equal ones the first): it;", () -> {
            MicRow x = Check.with("00,01", "+0108;+0308;+0308");
            Check.eq("of 1 and 2", x.masks(0), 1);
            x.sets(0, 4, 1);
            x.sets(1, 4, 1);
            Check.eq("none LIVE", x.masks(0), 0);
        });
        Edges.edge(29, "the ROW: that POWER.", () -> {
            MicRow x = Check.with("00,01", "+0108;+0308");
            x.masks(0);
            Check.row("of the other one", x, 1024);
            x.goes(0);
            x.masks(0);
            Check.row("of none", x, 0);
            x.sets(0, 1, 2);
            x.sets(1, 4, 1);
            x.holds(2, 4);
            x.masks(0);
            long sum = 0;
            for (int t = 0; t < 4; t++) {
                long gust = ((t + 300) * (t + 300) * 7 + (t + 311) * 13) % 1009 % 17 * 8 - 64;
                sum += 4 * gust * gust;
            }
            Check.row("WIND stays", x, sum / 4);
        });
        Edges.edge(29, "-2: there are no SOURCES;", () -> {
            Twins.stays("none", Twins::noSources, -2, x -> x.masks(0));
            Twins.stays("of a new object", MicRow::new, -2, x -> x.masks(-8));
        });
        Edges.edge(29, "NONE: another b.", () -> {
            for (int b : NO_DIRECTION) {
                Twins.stays("masks(" + b + ")", Twins::rich, -1, x -> x.masks(b));
                Twins.stays("it comes first", Twins::noSources, -1, x -> x.masks(b));
            }
        });
    }

    private static void nulled() {
        Edges.edge(30, "WEIGHTS of b are learnt with SOURCES of DIRECTION d alone; with these, all SOURCES there again:", () -> {
            MicRow x = Check.with("00,01", "+810088;+0108");
            x.sets(1, 0, 50);
            // With the first alone the weight is 5; BEAM of both is -32, 0, -16, 48 and BLOCKED -64, 0, 32, 32
            x.nulled(0, 8);
            Check.eq("-12, 0, -26, 38", x.row(0), 566);
            x.nulled(0, 5);
            Check.eq("none from 5: weight 0", x.row(0), 896);
            MicRow y = Check.with("00,01", "");
            y.sets(0, 1, 2);
            y.beams(0);
            long clean = y.row(2);
            y.nulled(0, 5);
            Check.eq("WIND stays", y.row(0), clean);
        });
        Edges.edge(30, "how many SOURCES have DIRECTION d;", () -> {
            MicRow x = Check.with("00,01", "-8108;+8108;-8208;+0108");
            Check.eq("-8", x.nulled(0, -8), 2);
            Check.eq("8", x.nulled(0, 8), 1);
            Check.eq("0", x.nulled(0, 0), 1);
            Check.eq("1", x.nulled(0, 1), 0);
            Check.eq("SOURCES stay", x.count(1), 4);
            Check.eq("of a new object", new MicRow().nulled(-8, 8), 0);
        });
        Edges.edge(30, "the ROW: POWER of CLEAN to b, POWER of BEAM to b over the SPAN.", () -> {
            MicRow x = Check.with("00,01", "+810088;+0108");
            x.sets(1, 0, 50);
            x.nulled(0, 8);
            Check.row("of both", x, 566, 896);
            x.aims(1, 0, 8);
            // BEAM -16, -16, 0, 32 and BLOCKED -96, 32, 0, 64: of weight 3
            x.nulled(0, 8);
            Check.row("both from 8", x, 222, 384);
            MicRow y = Twins.noneLive();
            y.nulled(0, 3);
            Check.row("none LIVE", y, 0, 0);
        });
        Edges.edge(30, "NONE: others.", () -> {
            for (int b : NO_DIRECTION) {
                Twins.stays("b " + b, Twins::rich, -1, x -> x.nulled(b, 0));
                Twins.stays("d " + b, Twins::rich, -1, x -> x.nulled(0, b));
            }
        });
    }

    private static void behind() {
        Edges.edge(31, "By how many SAMPLES (-8 .. 8) one MIC comes behind another one:", () -> {
            MicRow x = Check.with("00,08", "+8180880800888;+81880080008808");
            Check.eq("by 8", x.behind(1, 0), 16);
            Check.row("by 8", x, 16);
            Check.eq("by -8", x.behind(0, 1), 0);
            Check.row("by -8", x, 16);
            x.moves(1, 9);
            x.behind(1, 0);
            Check.yes("9 is too far", x.row(0) < 16);
        });
        Edges.edge(31, "by which s the SAMPLES of the one at t and s, of the other at t (t over the SPAN) have the same sign most often", () -> {
            MicRow x = Check.with("00,01", FOURS);
            Check.eq("1 comes behind 0", x.behind(1, 0), 9);
            Check.eq("0 comes ahead of 1", x.behind(0, 1), 7);
            x.sets(0, 4, 1);
            Check.eq("OUT ones too", x.behind(0, 1), 7);
            x.sets(1, 2, 1);
            Check.eq("EQUAL does not count", x.behind(1, 0), 9);
            MicRow y = Check.with("00,01", "+81844444444444");
            // 32 at 0 of MIC 0, at 1 of MIC 1: from 1 on one of 11 is heard by MIC 1 at 1 and by MIC 0 never
            y.holds(1, 1);
            y.holds(2, 11);
            Check.eq("MIC 0 at t - 1, MIC 1 at t", y.behind(0, 1), 7);
            Check.row("all of eleven: 0 is ahead of the SPAN", y, 11);
            Check.eq("0 and 0 have the same sign", y.behind(1, 0), 9);
            Check.row("all of eleven", y, 11);
            MicRow z = Check.with("00,01", "");
            z.sets(0, 1, 1);
            z.sets(1, 1, 1);
            z.holds(1, 20);
            z.holds(2, 10);
            int found = z.behind(0, 1) - 8;
            long told = z.row(0);
            long most = 0;
            for (int s = -8; s <= 8; s++) {
                long often = 0;
                for (int t = 20; t < 30; t++) {
                    often += Integer.signum(z.sample(0, t + s)) == Integer.signum(z.sample(1, t)) ? 1 : 0;
                }
                most = Math.max(most, often);
                Check.yes("by " + s, s == found ? often == told : often <= told);
            }
            Check.eq("by WIND, from 20 on", told, most);
        });
        Edges.edge(31, "(of equal ones the one of the least size, then the one above 0): 8 more than it;", () -> {
            MicRow x = Check.with("00,02", FOURS);
            Check.eq("of 2, -2, 6, -6", x.behind(0, 1), 10);
            Check.eq("of 2, -2, 6, -6", x.behind(1, 0), 10);
            x.moves(1, 3);
            Check.eq("of -3, 1, 5, -7", x.behind(0, 1), 9);
            Check.eq("of 3, -1, 7, -5", x.behind(1, 0), 7);
            x.sets(0, 3, 1);
            x.sets(1, 3, 1);
            Check.eq("of all", x.behind(0, 1), 8);
        });
    }

    private static void behindRefused() {
        Edges.edge(31, "the ROW: how often.", () -> {
            MicRow x = Check.with("00,01", FOURS);
            for (int many : new int[] {4, 9, 48}) {
                x.holds(2, many);
                x.behind(0, 1);
                Check.row("of " + many, x, many);
            }
            x.sets(0, 3, 1);
            x.behind(0, 1);
            Check.row("never", x, 0);
        });
        Edges.edge(31, "NONE: none such, both are one.", () -> {
            for (int m : NO_MIC) {
                Twins.stays("one " + m, Twins::rich, -1, x -> x.behind(m, 1));
                Twins.stays("other " + m, Twins::rich, -1, x -> x.behind(1, m));
                Twins.stays("both " + m, Twins::rich, -1, x -> x.behind(m, m));
            }
            Twins.stays("both are 0", Twins::rich, -1, x -> x.behind(0, 0));
            Twins.stays("both are 3", Twins::rich, -1, x -> x.behind(3, 3));
        });
    }

    private static void later() {
        Edges.edge(32, "FROM, were the SPAN from begin on: 8 more than it;", () -> {
            MicRow x = EdgesOfSpan.windy("+1163835");
            x.holds(2, 6);
            int[] due = {4, 9, 15, 8, 8};
            for (int i = 0; i < due.length; i++) {
                Check.eq("later(" + 6 * i + ")", x.later(6 * i), due[i]);
            }
            Check.eq("BEGIN stays", x.count(4), 0);
            int last = x.later(200);
            x.holds(1, 200);
            Check.eq("later(200)", last, x.from());
            Check.eq("ahead of BEGIN, too", x.later(0), 4);
        });
        Edges.edge(32, "the ROW: AGREE of all pairs.", () -> {
            MicRow x = EdgesOfSpan.windy("+1163835");
            x.holds(2, 6);
            for (int begin : new int[] {0, 6, 200}) {
                x.later(begin);
                Check.eq("one number", x.count(7), 1);
                long told = x.row(0);
                x.holds(1, begin);
                x.from();
                Check.eq("from " + begin, told, x.row(0));
            }
            MicRow y = Check.with("00,08,16", "+210088");
            y.later(77);
            Check.row("three pairs", y, 48);
            y.sets(1, 4, 1);
            Check.yes("two LIVE ones can", y.later(77) >= 0);
            Check.row("one pair", y, 16);
        });
        Edges.edge(32, "-2: less than two MICS are LIVE;", () -> {
            Twins.stays("one", Twins::oneLive, -2, x -> x.later(0));
            Twins.stays("none", Twins::noneLive, -2, x -> x.later(200));
            Twins.stays("no MICS", MicRow::new, -2, x -> x.later(0));
        });
        Edges.edge(32, "NONE: begin is not 0 .. 200.", () -> {
            for (int begin : new int[] {-1, 201, LEAST, MOST}) {
                Twins.stays("later(" + begin + ")", Twins::rich, -1, x -> x.later(begin));
                Twins.stays("it comes first", Twins::oneLive, -1, x -> x.later(begin));
            }
        });
    }

    private static void settles() {
        Edges.edge(33, "The least LONG (4 .. 48) by which FROM is d", () -> {
            MicRow x = Check.with("00,08", "+210088");
            Check.eq("4", x.settles(2), 4);
            x.holds(1, 200);
            Check.eq("4 from 200 on", x.settles(2), 4);
            x.holds(2, 48);
            Check.eq("4, though LONG is 48", x.settles(2), 4);
            Check.eq("LONG stays", x.count(5), 48);
            Check.eq("48", EdgesOfSpan.windy("-813270").settles(0), 48);
        });
        Edges.edge(33, "(and by the next four,", () -> {
            MicRow x = EdgesOfSpan.windy("+1163835");
            // FROM by LONG 4, 5, ..: -4 5 -4, seven times 5, -4 -4 -6, 8 from 17 to 40, 0 0 8 8, 4 from 45 on
            Check.eq("not at 5, where it does not stay", x.settles(5), 7);
            Check.eq("8", x.settles(8), 17);
            MicRow five = EdgesOfSpan.windy("+316583");
            // 2 from 33 to 37, -2 from 41 to 44
            Check.eq("five are enough", five.settles(2), 33);
            Check.eq("four are not", five.settles(-2), -2);
        });
        Edges.edge(33, "as far as 48): it.", () -> {
            Check.eq("45 .. 48", EdgesOfSpan.windy("+1163835").settles(4), 45);
            Check.eq("48 alone", EdgesOfSpan.windy("-813270").settles(0), 48);
        });
    }

    private static void settlesNever() {
        Edges.edge(33, "-2: none,", () -> {
            MicRow x = EdgesOfSpan.windy("+1163835");
            Check.eq("never for long", x.settles(0), -2);
            Check.eq("never for long from 4 on", x.settles(-4), -2);
            Check.eq("never", x.settles(-8), -2);
            Check.eq("as good as 2, but not taken", Check.with("00,08", "+210088").settles(-2), -2);
        });
        Edges.edge(33, "or less than two MICS are LIVE;", () -> {
            Twins.stays("one", Twins::oneLive, -2, x -> x.settles(0));
            Twins.stays("none", Twins::noneLive, -2, x -> x.settles(0));
            Twins.stays("no MICS", MicRow::new, -2, x -> x.settles(0));
        });
        Edges.edge(33, "NONE: d is not -8 .. 8.", () -> {
            for (int d : NO_DIRECTION) {
                Twins.stays("settles(" + d + ")", Twins::rich, -1, x -> x.settles(d));
                Twins.stays("it comes first", Twins::oneLive, -1, x -> x.settles(d));
            }
            MicRow x = Check.with("00,04", "-81880080008808");
            Check.yes("-8 can be", x.settles(-8) >= 4);
            x.aims(0, 0, 8);
            Check.yes("8 can be", x.settles(8) >= 4);
        });
    }
}
