/** Promises 34 to 40: changes by hand. */
final class EdgesOfChanges {
    private static final int LEAST = Integer.MIN_VALUE;
    private static final int MOST = Integer.MAX_VALUE;
    private static final int[] NO_MIC = {-1, 4, LEAST, MOST};

    private EdgesOfChanges() {
    }

    static void all() {
        sets();
        holds();
        moves();
        learns();
        learnsOfQuietOnes();
        sorts();
        sortsRefused();
        aims();
        goes();
    }

    private static void sets() {
        int[] least = {1, 0, 1, 0, 0};
        int[] most = {400, 9, 200, 1, 1};
        Edges.edge(34, "Of MIC m GAIN (what 0), WIND (1), EQUAL (2), DEAD (3: v 0, 1), OUT (4: 0, 1) becomes v: what it was.", () -> {
            int[] first = {100, 0, 100, 0, 0};
            for (int what = 0; what < 5; what++) {
                MicRow x = Check.with("00,01,02", "+0108");
                Check.eq("to the most", x.sets(1, what, most[what]), first[what]);
                Check.eq("to the least", x.sets(1, what, least[what]), most[what]);
                Check.eq("and back", x.sets(1, what, most[what]), least[what]);
                for (int part = 1; part < 6; part++) {
                    Check.eq("mic(1, " + part + ")", x.mic(1, part), part == what + 1 ? most[what] : first[part - 1]);
                    Check.eq("the one ahead", x.mic(0, part), first[part - 1]);
                    Check.eq("the one behind", x.mic(2, part), first[part - 1]);
                }
                Check.eq("they can be undone", x.count(6), 5);
            }
        });
        Edges.edge(34, "-2: it is so;", () -> {
            int[][] so = {{0, 0, 150}, {1, 1, 3}, {2, 2, 60}, {3, 3, 1}, {1, 4, 1}, {0, 4, 0}, {0, 3, 0}, {0, 1, 0}};
            for (int[] one : so) {
                Twins.stays("sets(" + one[0] + ", " + one[1] + ", " + one[2] + ")", Twins::rich, -2, x -> x.sets(one[0], one[1], one[2]));
            }
        });
        Edges.edge(34, "NONE: others.", () -> {
            for (int m : NO_MIC) {
                Twins.stays("MIC " + m, Twins::rich, -1, x -> x.sets(m, 0, 5));
            }
            for (int what : new int[] {-1, 5, 6, LEAST, MOST}) {
                Twins.stays("what " + what, Twins::rich, -1, x -> x.sets(0, what, 1));
            }
            for (int what = 0; what < 5; what++) {
                int w = what;
                for (int v : new int[] {least[w] - 1, most[w] + 1, LEAST, MOST}) {
                    Twins.stays("sets(0, " + w + ", " + v + ")", Twins::rich, -1, x -> x.sets(0, w, v));
                }
            }
        });
    }

    private static void holds() {
        int[] least = {1, 0, 4};
        int[] most = {9999, 200, 48};
        Edges.edge(35, "CLIP (what 0), BEGIN (1), LONG (2) becomes v: what it was.", () -> {
            int[] first = {300, 7, 9};
            for (int what = 0; what < 3; what++) {
                MicRow x = Twins.rich();
                Check.eq("to the most", x.holds(what, most[what]), first[what]);
                Check.eq("to the least", x.holds(what, least[what]), most[what]);
                for (int other = 0; other < 3; other++) {
                    Check.eq("count(" + (3 + other) + ")", x.count(3 + other), other == what ? least[what] : first[other]);
                }
                x.undo();
                Check.eq("it can be undone", x.count(3 + what), most[what]);
            }
        });
        Edges.edge(35, "-2: it is so;", () -> {
            int[][] so = {{0, 300}, {1, 7}, {2, 9}};
            for (int[] one : so) {
                Twins.stays("holds(" + one[0] + ", " + one[1] + ")", Twins::rich, -2, x -> x.holds(one[0], one[1]));
            }
            int[] first = {9999, 0, 16};
            for (int what = 0; what < 3; what++) {
                int w = what;
                Twins.stays("of a new object", MicRow::new, -2, x -> x.holds(w, first[w]));
            }
        });
        Edges.edge(35, "NONE: others.", () -> {
            for (int what : new int[] {-1, 3, LEAST, MOST}) {
                Twins.stays("what " + what, Twins::rich, -1, x -> x.holds(what, 5));
            }
            for (int what = 0; what < 3; what++) {
                int w = what;
                for (int v : new int[] {least[w] - 1, most[w] + 1, LEAST, MOST}) {
                    Twins.stays("holds(" + w + ", " + v + ")", Twins::rich, -1, x -> x.holds(w, v));
                }
            }
        });
    }

    private static void moves() {
        Edges.edge(36, "MIC m goes to a PLACE (PLACES still rise by numbers): where it was.", () -> {
            MicRow x = Twins.rich();
            Check.eq("the first to 0", x.moves(0, 0), 2);
            Check.eq("the first up to the next", x.moves(0, 4), 0);
            Check.eq("the last to 40", x.moves(3, 40), 18);
            Check.eq("the last down to the one ahead", x.moves(3, 12), 40);
            Check.eq("one between", x.moves(1, 10), 5);
            Check.eq("one between", x.moves(1, 5), 10);
            long[] due = {4, 5, 11, 12};
            for (int m = 0; m < 4; m++) {
                Check.eq("PLACE of " + m, x.mic(m, 0), due[m]);
            }
            Check.eq("all else of it stays", x.mic(1, 2) + x.mic(1, 5), 3 + 1);
            x.undo();
            Check.eq("it can be undone", x.mic(1, 0), 10);
            MicRow y = Check.with("20", "");
            Check.eq("one alone", y.moves(0, 40) + y.moves(0, 0), 20 + 40);
        });
        Edges.edge(36, "-2: it is there;", () -> {
            int[] places = {2, 5, 11, 18};
            for (int m = 0; m < 4; m++) {
                int one = m;
                Twins.stays("MIC " + m, Twins::rich, -2, x -> x.moves(one, places[one]));
            }
        });
        Edges.edge(36, "-3: they would not rise;", () -> {
            int[][] wrong = {{0, 5}, {0, 6}, {0, 40}, {1, 2}, {1, 1}, {1, 0}, {1, 11}, {1, 12}, {1, 40}, {3, 11}, {3, 10}, {3, 0}};
            for (int[] one : wrong) {
                Twins.stays("moves(" + one[0] + ", " + one[1] + ")", Twins::rich, -3, x -> x.moves(one[0], one[1]));
            }
        });
        Edges.edge(36, "NONE: others.", () -> {
            for (int m : NO_MIC) {
                Twins.stays("MIC " + m, Twins::rich, -1, x -> x.moves(m, 3));
            }
            for (int place : new int[] {-1, 41, LEAST, MOST}) {
                for (int m = 0; m < 4; m++) {
                    int one = m;
                    Twins.stays("moves(" + m + ", " + place + ")", Twins::rich, -1, x -> x.moves(one, place));
                }
            }
        });
    }

    private static void learns() {
        Edges.edge(37, "EQUAL is learnt: of each MIC that is not QUIET 100 times LEVEL of the greatest LEVEL of a MIC by its own LEVEL", () -> {
            MicRow x = Check.with("00,01,02,03", "+0108");
            x.sets(1, 0, 60);
            x.sets(2, 3, 1);
            x.sets(2, 2, 77);
            x.sets(3, 0, 200);
            x.sets(3, 4, 1);
            // LEVELS 32, 19, 0 and 64; the greatest is OUT
            Check.eq("two have another one", x.learns(), 2);
            long[] due = {200, 200, 77, 100};
            for (int m = 0; m < 4; m++) {
                Check.eq("EQUAL of " + m, x.mic(m, 3), due[m]);
            }
            x.sets(3, 3, 1);
            Check.eq("without it", x.learns(), 2);
            Check.eq("3200 by 32", x.mic(0, 3), 100);
            Check.eq("3200 by 19 is cut", x.mic(1, 3), 168);
            Check.eq("a QUIET one stays", x.mic(3, 3), 100);
        });
        Edges.edge(37, "(held to 1 .. 200;", () -> {
            MicRow x = Check.with("00,01,02", "+0108");
            x.sets(1, 0, 50);
            x.sets(2, 0, 49);
            // LEVELS 32, 16, 15
            x.learns();
            Check.eq("200", x.mic(1, 3), 200);
            Check.eq("213 is held", x.mic(2, 3), 200);
            x.sets(1, 0, 53);
            x.learns();
            Check.eq("3200 by 16", x.mic(1, 3), 200);
            x.sets(1, 0, 54);
            x.learns();
            Check.eq("3200 by 17", x.mic(1, 3), 188);
        });
        Edges.edge(37, "of LEVEL 0: 200):", () -> {
            MicRow x = Check.with("00,01", "+01844444444444");
            x.sets(0, 0, 10);
            x.sets(1, 0, 20);
            // 3 and 6 at 0 and 12 alone
            Check.eq("both are of LEVEL 0", x.level(0) + x.level(1), 0);
            Check.eq("both", x.learns(), 2);
            Check.eq("200", x.mic(0, 3), 200);
            Check.eq("200", x.mic(1, 3), 200);
            x.sets(1, 0, 100);
            Check.eq("the other one has 4", x.level(1), 4);
            Check.eq("one", x.learns(), 1);
            Check.eq("200 still", x.mic(0, 3), 200);
            Check.eq("100 again", x.mic(1, 3), 100);
        });
        Edges.edge(37, "how many have another one than before.", () -> {
            MicRow x = Check.with("00,01,02", "+0108");
            Check.eq("none", x.learns(), 0);
            Check.eq("it was done all the same", x.count(6), 3);
            x.sets(0, 2, 5);
            Check.eq("one", x.learns(), 1);
            x.sets(0, 0, 200);
            Check.eq("two", x.learns(), 2);
            Check.eq("none again", x.learns(), 0);
        });
    }

    private static void learnsOfQuietOnes() {
        Edges.edge(37, "-2: all are QUIET, or there are none.", () -> {
            Twins.stays("nothing is heard", EdgesOfChanges::quiet, -2, MicRow::learns);
            Twins.stays("there are none", MicRow::new, -2, MicRow::learns);
            MicRow x = quiet();
            x.sets(0, 1, 1);
            Check.eq("one is not", x.learns(), 0);
        });
    }

    private static MicRow quiet() {
        MicRow x = Twins.noSources();
        x.sets(1, 1, 0);
        return x;
    }

    /** CLIPPED: 12 of MIC 0, none of MIC 1, and MIC 2 is QUIET. */
    private static MicRow faulty() {
        MicRow x = Check.with("00,01,02", "+010488");
        x.holds(0, 32);
        x.sets(1, 0, 50);
        x.sets(2, 3, 1);
        return x;
    }

    private static void sorts() {
        Edges.edge(38, "MICS that are QUIET, or of which n SAMPLES at least are CLIPPED, are OUT, all others are not:", () -> {
            int[][] due = {{1, 2}, {11, 2}, {12, 2}, {13, 3}, {48, 3}};
            for (int[] one : due) {
                MicRow x = faulty();
                x.sets(1, 4, 1);
                x.sorts(one[0]);
                Check.eq("LIVE ones by " + one[0], x.count(2), one[1]);
            }
            MicRow y = Check.with("00", "+0188");
            y.holds(0, 32);
            y.holds(2, 48);
            Check.eq("48 of 48", y.sorts(48), 1);
            MicRow z = faulty();
            z.holds(1, 1);
            z.holds(2, 4);
            z.sorts(4);
            Check.eq("three of the SPAN are less than 4", z.count(2), 3);
        });
        Edges.edge(38, "how many are OUT then.", () -> {
            MicRow x = faulty();
            Check.eq("two", x.sorts(12), 2);
            Check.eq("one", x.sorts(13), 1);
            x.sets(2, 3, 0);
            Check.eq("none", x.sorts(13), 0);
            x.holds(0, 16);
            Check.eq("three", x.sorts(1), 3);
            Check.eq("they can be undone", x.undo() + x.count(2), 7 + 7);
        });
    }

    private static void sortsRefused() {
        Edges.edge(38, "-2: it is so;", () -> {
            Twins.stays("sorted already", EdgesOfChanges::sorted, -2, x -> x.sorts(12));
            Twins.stays("by another number, too", EdgesOfChanges::sorted, -2, x -> x.sorts(1));
            Twins.stays("no MICS", MicRow::new, -2, x -> x.sorts(1));
            Twins.stays("none is to be OUT", () -> Check.with("00", "+0108"), -2, x -> x.sorts(48));
        });
        Edges.edge(38, "NONE: n is not 1 .. 48.", () -> {
            for (int n : new int[] {0, 49, -1, LEAST, MOST}) {
                Twins.stays("sorts(" + n + ")", Twins::rich, -1, x -> x.sorts(n));
                Twins.stays("it comes first", EdgesOfChanges::sorted, -1, x -> x.sorts(n));
            }
        });
    }

    private static MicRow sorted() {
        MicRow x = faulty();
        x.sorts(12);
        x.beams(0);
        return x;
    }

    private static void aims() {
        Edges.edge(39, "Of SOURCE s DIRECTION (what 0), LOUD (1) becomes v: 8 more than the DIRECTION, or LOUD, as it was.", () -> {
            MicRow x = Twins.rich();
            Check.eq("from 3 to -8", x.aims(0, 0, -8), 11);
            Check.eq("from -8 to 8", x.aims(0, 0, 8), 0);
            Check.eq("from 8 to 0", x.aims(0, 0, 0), 16);
            Check.eq("from -5", x.aims(1, 0, 5), 3);
            Check.eq("LOUD from 2 to 9", x.aims(0, 1, 9), 2);
            Check.eq("LOUD from 9 to 1", x.aims(0, 1, 1), 9);
            Check.eq("DIRECTION", x.source(0, 0), 0);
            Check.eq("LOUD", x.source(0, 1), 1);
            Check.eq("steps stay", x.source(0, 2), 5);
            Check.eq("the other one", x.source(1, 1), 3);
            Check.eq("they can be undone", x.undo() + x.source(0, 1), 7 + 9);
        });
        Edges.edge(39, "-2: it is so;", () -> {
            int[][] so = {{0, 0, 3}, {1, 0, -5}, {0, 1, 2}, {1, 1, 3}};
            for (int[] one : so) {
                Twins.stays("aims(" + one[0] + ", " + one[1] + ", " + one[2] + ")", Twins::rich, -2, x -> x.aims(one[0], one[1], one[2]));
            }
        });
        Edges.edge(39, "NONE: others.", () -> {
            for (int s : new int[] {-1, 2, 4, LEAST, MOST}) {
                Twins.stays("SOURCE " + s, Twins::rich, -1, x -> x.aims(s, 0, 0));
            }
            for (int what : new int[] {-1, 2, LEAST, MOST}) {
                Twins.stays("what " + what, Twins::rich, -1, x -> x.aims(0, what, 1));
            }
            for (int v : new int[] {-9, 9, LEAST, MOST}) {
                Twins.stays("DIRECTION " + v, Twins::rich, -1, x -> x.aims(0, 0, v));
            }
            for (int v : new int[] {0, 10, -1, LEAST, MOST}) {
                Twins.stays("LOUD " + v, Twins::rich, -1, x -> x.aims(0, 1, v));
            }
            Twins.stays("no SOURCES", Twins::noSources, -1, x -> x.aims(0, 0, 1));
        });
    }

    private static void goes() {
        Edges.edge(40, "A SOURCE goes (those behind it get a number less): how many are left.", () -> {
            MicRow x = Check.with("00,01", "+3254;-8187654;+1112");
            Check.eq("the first of three", x.goes(0), 2);
            long[] due = {-8, 1, 5, 4, 3, 2, 1, 0};
            for (int what = 0; what < due.length; what++) {
                Check.eq("source(0, " + what + ")", x.source(0, what), due[what]);
            }
            Check.eq("the last", x.source(1, 0), 1);
            Check.none("no third one", () -> x.source(2, 0));
            Check.eq("the last goes", x.goes(1), 1);
            Check.eq("the first stays", x.source(0, 0), -8);
            Check.eq("none is left", x.goes(0), 0);
            Check.eq("SOURCES", x.count(1), 0);
            Check.eq("nothing is heard", x.sample(0, 0), 0);
            Check.eq("they can be undone", x.undo() + x.undo() + x.undo(), 4 + 3 + 2);
            Check.eq("three again", x.count(1), 3);
            Check.eq("one between goes", x.goes(1), 2);
            Check.eq("the first stays", x.source(0, 0), 3);
            Check.eq("the last", x.source(1, 0), 1);
            MicRow y = Check.with("", "+81000000000000;+71111111111111;+61222222222222;+51333333333337");
            Check.eq("of four", y.goes(0), 3);
            Check.eq("the last", y.source(2, 0), 5);
            Check.eq("its twelfth step", y.source(2, 14), 3);
            Check.none("no fourth one", () -> y.source(3, 0));
        });
        Edges.edge(40, "NONE: none such.", () -> {
            for (int s : new int[] {-1, 2, 4, LEAST, MOST}) {
                Twins.stays("goes(" + s + ")", Twins::rich, -1, x -> x.goes(s));
            }
            Twins.stays("no SOURCES", Twins::noSources, -1, x -> x.goes(0));
        });
    }
}
