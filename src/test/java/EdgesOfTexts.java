/** Promises 1 to 6: a new object, THE TEXT, MICS and SOURCES told as texts, sheets. */
final class EdgesOfTexts {
    private static final String SIX = "00,01,02,03,04,05";
    private static final String FOUR = "+0108;+0108;+0108;+0108";

    private EdgesOfTexts() {
    }

    static void all() {
        newObject();
        sign();
        end();
        mics();
        micsWrong();
        sources();
        sourcesWrong();
        sheet();
        sheetNumbers();
        sheetRefused();
    }

    private static void newObject() {
        Edges.edge(1, "No MICS, no SOURCES.", () -> {
            MicRow x = new MicRow();
            Check.eq("MICS", x.count(0), 0);
            Check.eq("SOURCES", x.count(1), 0);
            Check.eq("LIVE ones", x.count(2), 0);
            Check.eq("what can be undone", x.count(6), 0);
            Check.eq("the ROW", x.count(7), 0);
            Check.eq("THE TEXT", x.count(8), 0);
            Check.none("MIC 0", () -> x.mic(0, 0));
            Check.none("SOURCE 0", () -> x.source(0, 0));
            Check.no("nothing is kept", x.again(0) || x.again(1));
        });
        Edges.edge(Edges.WHAT_IT_IS, "An object is used for at most 512 calls after it has been made", () -> {
            MicRow x = new MicRow();
            x.sign('0' << 24 | '0' << 16);
            x.end(2);
            x.mics();
            for (int call = 4; call <= 511; call++) {
                Check.eq("call " + call, x.sets(0, 0, call % 2 == 0 ? 7 : 8), call == 4 ? 100 : call % 2 == 0 ? 8 : 7);
            }
            Check.eq("call 512", x.undo(), 7);
        });
    }

    private static void sign() {
        Edges.edge(2, "Four signs come behind THE TEXT, of v the highest byte first: how many it has.", () -> {
            MicRow x = new MicRow();
            Check.eq("four", x.sign('0' << 24 | '3' << 16 | ',' << 8 | '1'), 4);
            Check.eq("eight", x.sign('7' << 24 | ',' << 16 | '2' << 8 | '0'), 8);
            Check.eq("as a text", x.mics(), 3);
            Check.eq("03", x.mic(0, 0), 3);
            Check.eq("17", x.mic(1, 0), 17);
            Check.eq("20", x.mic(2, 0), 20);
            Check.eq("behind what is left", x.sign(0x30303030) + (x.end(1) ? 1 : 0) + x.sign(0x39393939), 4 + 1 + 5);
            x.end(2);
            Check.eq("09", x.mics() + x.mic(0, 0), 1 + 9);
            Check.eq("a byte above 127", x.sign(0xB0B70000), 4);
            x.end(2);
            Check.eq("it is no digit", x.mics(), -1);
        });
        Edges.edge(2, "Refused: there would be more than 80.", () -> {
            MicRow x = Check.with("00", "+0108");
            for (int n = 4; n <= 80; n += 4) {
                Check.eq("sign", x.sign(0x6c6c6c6c), n);
            }
            Check.eq("84", x.sign(0), -1);
            Check.eq("80 stay", x.count(8), 80);
            Check.eq("as they are", x.day(), 80);
            for (int cut = 77; cut <= 79; cut++) {
                for (int n = 4; n <= 80; n += 4) {
                    x.sign(0x6c6c6c6c);
                }
                x.end(cut);
                Check.eq("from " + cut, x.sign(0x78787878), -1);
                Check.eq("as it is", x.day(), cut);
            }
            for (int n = 4; n <= 76; n += 4) {
                x.sign(0x6c6c6c6c);
            }
            Check.eq("from 76", x.sign(0x6c6c6c6c), 80);
        });
    }

    private static void end() {
        Edges.edge(3, "THE TEXT has its first n signs alone: true;", () -> {
            MicRow x = new MicRow();
            x.sign('0' << 24 | '3' << 16 | ',' << 8 | '9');
            Check.yes("all", x.end(4));
            Check.eq("all stay", x.count(8), 4);
            Check.yes("the first two", x.end(2));
            Check.eq("two", x.count(8), 2);
            Check.eq("03", x.mics() + x.mic(0, 0), 1 + 3);
            x.sign('0' << 24);
            Check.yes("none", x.end(0));
            Check.eq("an empty one", x.count(8), 0);
            Check.yes("none of an empty one", x.end(0));
        });
        Edges.edge(3, "false if it has not so many,", () -> {
            Twins.stays("3 of 2", Twins::rich, 0, x -> x.end(3) ? 1 : 0);
            Twins.stays("80 of 2", Twins::rich, 0, x -> x.end(80) ? 1 : 0);
            Twins.stays("the greatest", Twins::rich, 0, x -> x.end(Integer.MAX_VALUE) ? 1 : 0);
            Check.no("1 of an empty one", new MicRow().end(1));
        });
        Edges.edge(3, "or n is below 0.", () -> {
            Twins.stays("-1", Twins::rich, 0, x -> x.end(-1) ? 1 : 0);
            Twins.stays("the least", Twins::rich, 0, x -> x.end(Integer.MIN_VALUE) ? 1 : 0);
        });
    }

    private static void mics() {
        Edges.edge(4, "THE TEXT is MICS (all anew, in place of those there were;", () -> {
            MicRow x = Twins.rich();
            MicRow y = Twins.rich();
            Check.eq("as many", Check.mics(x, "01,02,03,04"), 4);
            for (int m = 0; m < 4; m++) {
                long[] due = {m + 1, 100, 0, 100, 0, 0};
                for (int what = 0; what < 6; what++) {
                    Check.eq("mic(" + m + ", " + what + ")", x.mic(m, what), due[what]);
                }
            }
            Check.eq("all are LIVE", x.count(2), 15);
            Check.yes("all else stays", x.count(1) == 2 && x.count(3) == 300 && x.count(4) == 7 && x.count(5) == 9);
            Check.eq("one", Check.mics(y, "40"), 1);
            Check.none("no second one", () -> y.mic(1, 0));
            Check.eq("four again", Check.mics(y, "01,02,03,04") + y.mic(1, 2) + y.mic(1, 5) + y.mic(3, 4), 4);
        });
        Edges.edge(4, "an empty one: none):", () -> {
            MicRow x = Twins.rich();
            Check.eq("none", Check.mics(x, ""), 0);
            Check.eq("MICS", x.count(0), 0);
            Check.eq("LIVE ones", x.count(2), 0);
            Check.eq("it was done", x.undo() + x.count(0), 7 + 4);
            Check.eq("of a new object", new MicRow().mics(), 0);
        });
        Edges.edge(4, "of each two digits (PLACE), with , between: how many.", () -> {
            Check.eq("one", Check.mics(new MicRow(), "00"), 1);
            MicRow x = new MicRow();
            Check.eq("six", Check.mics(x, "00,09,10,19,39,40"), 6);
            int[] due = {0, 9, 10, 19, 39, 40};
            for (int m = 0; m < 6; m++) {
                Check.eq("PLACE of " + m, x.mic(m, 0), due[m]);
            }
            Check.eq("THE TEXT was read", x.count(8), 0);
        });
    }

    private static void micsWrong() {
        Edges.edge(4, "-1 - p: the sign at p can't stand there", () -> {
            String text = "05,17,23";
            for (int p = 0; p < text.length(); p++) {
                boolean comma = p % 3 == 2;
                for (char wrong : new char[] {'x', ' ', (char) 0, (char) 255, '/', ':', comma ? '5' : ',', ';', '+'}) {
                    Twins.emptied(text.substring(0, p) + wrong + text.substring(p + 1), Twins::rich, -1 - p, MicRow::mics);
                }
            }
            Twins.emptied("05 ,17", Twins::rich, -3, MicRow::mics);
            Twins.emptied("5,17", Twins::rich, -2, MicRow::mics);
        });
        Edges.edge(4, "(the second digit of a PLACE above 40,", () -> {
            Twins.emptied("41", Twins::rich, -2, MicRow::mics);
            Twins.emptied("50", Twins::rich, -2, MicRow::mics);
            Twins.emptied("99", Twins::rich, -2, MicRow::mics);
            Twins.emptied("5x", Twins::rich, -2, MicRow::mics);
            Twins.emptied("00,40,41", Twins::rich, -8, MicRow::mics);
            Check.eq("40 can", Check.mics(new MicRow(), "40"), 1);
        });
        Edges.edge(4, "or that does not rise;", () -> {
            Twins.emptied("00,00", Twins::rich, -5, MicRow::mics);
            Twins.emptied("05,05", Twins::rich, -5, MicRow::mics);
            Twins.emptied("20,19", Twins::rich, -5, MicRow::mics);
            Twins.emptied("20,0x", Twins::rich, -5, MicRow::mics);
            Twins.emptied("05,17,06", Twins::rich, -8, MicRow::mics);
            Check.eq("by 1 it can", Check.mics(new MicRow(), "05,06"), 2);
        });
        Edges.edge(4, "the , of a seventh;", () -> {
            Twins.emptied(SIX + ",", Twins::rich, -18, MicRow::mics);
            Twins.emptied(SIX + ",06", Twins::rich, -18, MicRow::mics);
            Check.eq("six can", Check.mics(new MicRow(), SIX), 6);
        });
        Edges.edge(4, "its end, if it ends too early).", () -> {
            Twins.emptied("0", Twins::rich, -2, MicRow::mics);
            Twins.emptied("9", Twins::rich, -2, MicRow::mics);
            Twins.emptied("05,", Twins::rich, -4, MicRow::mics);
            Twins.emptied("05,1", Twins::rich, -5, MicRow::mics);
            Twins.emptied("00,01,02,03,04,", Twins::rich, -16, MicRow::mics);
            MicRow x = new MicRow();
            x.sign('0' << 24 | '5' << 16 | ',' << 8 | '1');
            x.sign('7' << 24);
            x.end(4);
            Check.eq("signs behind the end are gone", x.mics(), -5);
        });
    }

    private static void sources() {
        Edges.edge(5, "THE TEXT is SOURCES (in place of those there were;", () -> {
            MicRow x = Twins.rich();
            Check.eq("one of two", Check.sources(x, "+7988"), 1);
            Check.eq("DIRECTION", x.source(0, 0), 7);
            Check.eq("its steps", x.source(0, 2), 2);
            Check.none("no third step", () -> x.source(0, 5));
            Check.none("no second one", () -> x.source(1, 0));
            Check.yes("all else stays", x.count(0) == 4 && x.mic(0, 1) == 150 && x.count(3) == 300 && x.count(5) == 9);
            Check.eq("THE TEXT was read", x.count(8), 0);
        });
        Edges.edge(5, "an empty one: none):", () -> {
            MicRow x = Twins.rich();
            Check.eq("none", Check.sources(x, ""), 0);
            Check.eq("SOURCES", x.count(1), 0);
            Check.eq("it was done", x.undo() + x.count(1), 7 + 2);
            Check.eq("of a new object", new MicRow().sources(), 0);
        });
        Edges.edge(5, "of each + or - and a digit 0 .. 8 (DIRECTION),", () -> {
            MicRow x = Check.with("", "+0108;-0108;+8108;-8108");
            long[] due = {0, 0, 8, -8};
            for (int s = 0; s < 4; s++) {
                Check.eq("DIRECTION of " + s, x.source(s, 0), due[s]);
            }
            Twins.emptied("+9108", Twins::rich, -2, MicRow::sources);
            Twins.emptied("-9108", Twins::rich, -2, MicRow::sources);
            Twins.emptied("0108", Twins::rich, -1, MicRow::sources);
            Twins.emptied(",0108", Twins::rich, -1, MicRow::sources);
        });
        Edges.edge(5, "a digit 1 .. 9 (LOUD),", () -> {
            MicRow x = Check.with("", "+0108;+0908");
            Check.eq("1", x.source(0, 1), 1);
            Check.eq("9", x.source(1, 1), 9);
            Twins.emptied("+0008", Twins::rich, -3, MicRow::sources);
            Twins.emptied("+0:08", Twins::rich, -3, MicRow::sources);
            Twins.emptied("+0/08", Twins::rich, -3, MicRow::sources);
        });
        Edges.edge(5, "then its steps, a digit 0 .. 8 each (4 more than the step),", () -> {
            MicRow x = Check.with("", "+01048");
            long[] due = {3, -4, 0, 4};
            for (int i = 0; i < due.length; i++) {
                Check.eq("source(0, " + (i + 2) + ")", x.source(0, i + 2), due[i]);
            }
            Twins.emptied("+0198", Twins::rich, -4, MicRow::sources);
            Twins.emptied("+0189", Twins::rich, -5, MicRow::sources);
            Twins.emptied("+01889", Twins::rich, -6, MicRow::sources);
            Twins.emptied("+0188888888888 ", Twins::rich, -15, MicRow::sources);
        });
        Edges.edge(5, "with ; between SOURCES: how many.", () -> {
            Check.eq("one", Check.sources(new MicRow(), "+0108"), 1);
            Check.eq("four", Check.sources(new MicRow(), "+0108;-31080808080808;+0108;-8108"), 4);
            Twins.emptied("+0108,+0108", Twins::rich, -6, MicRow::sources);
            Twins.emptied("+0108+0108", Twins::rich, -6, MicRow::sources);
        });
    }

    private static void sourcesWrong() {
        Edges.edge(5, "-1 - p: the sign at p can't stand there", () -> {
            String text = "+8123;-7412;+3988";
            for (int p = 0; p < text.length(); p++) {
                for (char wrong : new char[] {'x', ' ', (char) 0, (char) 255, ',', ':', '/'}) {
                    Twins.emptied(text.substring(0, p) + wrong + text.substring(p + 1), Twins::rich, -1 - p, MicRow::sources);
                }
            }
        });
        Edges.edge(5, "(a thirteenth step;", () -> {
            String twelve = "+81012345678012";
            Check.eq("twelve can", Check.sources(new MicRow(), twelve), 1);
            Twins.emptied(twelve + "3", Twins::rich, -16, MicRow::sources);
            Twins.emptied(twelve + "3;+8188", Twins::rich, -16, MicRow::sources);
            Twins.emptied("+8188;" + twelve + "3", Twins::rich, -22, MicRow::sources);
            Check.eq("the ; behind twelve can", Check.sources(new MicRow(), twelve + ";" + twelve), 2);
        });
        Edges.edge(5, "the ; of a fifth,", () -> {
            Check.eq("four can", Check.sources(new MicRow(), FOUR), 4);
            Twins.emptied(FOUR + ";", Twins::rich, -24, MicRow::sources);
            Twins.emptied(FOUR + ";+0108", Twins::rich, -24, MicRow::sources);
            String longest = "+81012345678012;+81012345678012;+81012345678012;+81012345678012";
            Twins.emptied(longest + ";+8108", Twins::rich, -64, MicRow::sources);
        });
        Edges.edge(5, "or behind one step;", () -> {
            Twins.emptied("+814;+8144", Twins::rich, -5, MicRow::sources);
            Twins.emptied("+8144;+814;", Twins::rich, -11, MicRow::sources);
            Twins.emptied("+81;", Twins::rich, -4, MicRow::sources);
            Check.eq("behind two it can", Check.sources(new MicRow(), "+8144;+8144"), 2);
        });
        Edges.edge(5, "its end, if it ends too early).", () -> {
            String text = "+8144;-7312";
            for (int n : new int[] {1, 2, 3, 4, 6, 7, 8, 9, 10}) {
                Twins.emptied(text.substring(0, n), Twins::rich, -1 - n, MicRow::sources);
            }
            Check.eq("behind two steps it can", Check.sources(new MicRow(), "+8144"), 1);
        });
    }

    private static MicRow four() {
        return Check.with("00,01,02,03", "");
    }

    private static void gains(String what, MicRow x, long... due) {
        for (int m = 0; m < due.length; m++) {
            Check.eq(what + ": GAIN of " + m, x.mic(m, 1), due[m]);
        }
    }

    private static void sheet() {
        Edges.edge(6, "GAINS of MICS become as a sheet tells: entry k of MIC k", () -> {
            MicRow x = four();
            Check.eq("four", x.sheet(2, 4, 7, 10), 4);
            gains("four", x, 7, 17, 27, 37);
            Check.eq("more entries than MICS", x.sheet(2, 6, 50, 1), 4);
            gains("more entries than MICS", x, 50, 51, 52, 53);
            Check.eq("of no MICS", new MicRow().sheet(2, 6, 5, 5), 0);
        });
        Edges.edge(6, "(those behind the last entry stay),", () -> {
            MicRow x = four();
            x.sheet(2, 4, 7, 10);
            Check.eq("one entry", x.sheet(2, 1, 9, 9), 1);
            gains("one entry", x, 9, 17, 27, 37);
            Check.eq("no entry", x.sheet(2, 0, 5, 5), 0);
            gains("no entry", x, 9, 17, 27, 37);
        });
        Edges.edge(6, "held to 1 .. 400:", () -> {
            MicRow x = four();
            x.sheet(2, 4, 399, 1);
            gains("above", x, 399, 400, 400, 400);
            x.sheet(2, 4, 2, -1);
            gains("below", x, 2, 1, 1, 1);
            x.sheet(2, 2, Integer.MAX_VALUE, 2);
            gains("the greatest, then near the least", x, 400, 1);
        });
        Edges.edge(6, "bytes (kind 0), shorts (1), ints (2) of n entries f, f + step, ..", () -> {
            for (int kind = 0; kind < 3; kind++) {
                MicRow x = four();
                Check.eq("kind " + kind, x.sheet(kind, 3, 60, 30), 3);
                gains("kind " + kind, x, 60, 90, 120, 100);
            }
            MicRow x = four();
            x.sheet(0, 1, 300, 0);
            gains("300 as a byte", x, 44);
            x.sheet(1, 1, 300, 0);
            gains("300 as a short", x, 300);
            x.sheet(1, 1, 65536 + 33, 0);
            gains("65569 as a short", x, 33);
            x.sheet(2, 1, 65536 + 33, 0);
            gains("65569 as an int", x, 400);
        });
    }

    private static void sheetNumbers() {
        Edges.edge(6, "(as ints; of bytes, shorts the lowest bits, with their sign),", () -> {
            MicRow x = four();
            x.sheet(0, 4, 126, 1);
            gains("bytes: 126, 127, -128, -127", x, 126, 127, 1, 1);
            x.sheet(0, 4, 255, 1);
            gains("bytes: -1, 0, 1, 2", x, 1, 1, 1, 2);
            x.sheet(0, 2, Integer.MAX_VALUE - 155, 256);
            gains("bytes of ints that turn over", x, 100, 100);
            x.sheet(1, 4, 32767, 1);
            gains("shorts: 32767, -32768, ..", x, 400, 1, 1, 1);
            x.sheet(1, 4, 65535, 1);
            gains("shorts: -1, 0, 1, 2", x, 1, 1, 1, 2);
            x.sheet(1, 2, -65536 + 399, 65536);
            gains("shorts: the lowest bits", x, 399, 399);
            x.sheet(2, 2, Integer.MAX_VALUE, 1);
            gains("ints turn over", x, 400, 1);
            x.sheet(2, 2, Integer.MIN_VALUE, Integer.MIN_VALUE);
            gains("ints turn over to 0", x, 1, 1);
            x.sheet(2, 3, Integer.MIN_VALUE + 77, Integer.MIN_VALUE);
            gains("ints turn over to 77 and back", x, 1, 77, 1);
        });
        Edges.edge(6, "or a missing one (3):", () -> Check.eq("kind 3", four().sheet(3, 2, 5, 5), -3));
        Edges.edge(6, "how many have another GAIN than before.", () -> {
            MicRow x = four();
            Check.eq("one of two", x.sheet(2, 2, 100, 1), 1);
            Check.eq("none", x.sheet(2, 2, 100, 1), 0);
            x.sheet(2, 4, 400, 0);
            Check.eq("held to what it was", x.sheet(2, 4, 401, 5), 0);
            Check.eq("all four", x.sheet(2, 4, 1, 0), 4);
        });
        Edges.edge(6, "Nothing is kept of it that could be undone.", () -> {
            MicRow x = four();
            x.sets(0, 0, 50);
            Check.eq("what can be undone", x.count(6), 3);
            Check.eq("a sheet", x.sheet(2, 4, 7, 10), 4);
            Check.eq("as much can be undone", x.count(6), 3);
            Check.eq("sets() is undone", x.undo(), 2);
            gains("as ahead of sets()", x, 100, 100, 100, 100);
            MicRow y = four();
            y.again(0);
            Check.eq("a sheet", y.sheet(2, 4, 7, 10) + y.sets(0, 0, 50) + y.undo(), 4 + 7 + 2);
            gains("what it did ahead of sets() stays", y, 7, 17, 27, 37);
        });
    }

    private static void sheetRefused() {
        Edges.edge(6, "-2: n below 0 (of kinds 0 .. 2; nothing changes);", () -> {
            for (int kind = 0; kind < 3; kind++) {
                int k = kind;
                Twins.stays("kind " + kind, Twins::rich, -2, x -> x.sheet(k, -1, 5, 5));
                Twins.stays("kind " + kind, Twins::rich, -2, x -> x.sheet(k, Integer.MIN_VALUE, 5, 5));
            }
        });
        Edges.edge(6, "-3: missing (nothing changes).", () -> {
            for (int n : new int[] {0, 4, 6, -1, Integer.MIN_VALUE}) {
                Twins.stays("n " + n, Twins::rich, -3, x -> x.sheet(3, n, 5, 5));
            }
        });
        Edges.edge(6, "NONE: another kind, n above 6 (these first).", () -> {
            for (int kind : new int[] {-1, 4, Integer.MIN_VALUE, Integer.MAX_VALUE}) {
                Twins.stays("kind " + kind, Twins::rich, -1, x -> x.sheet(kind, 1, 5, 5));
                Twins.stays("ahead of n below 0", Twins::rich, -1, x -> x.sheet(kind, -1, 5, 5));
            }
            for (int kind = 0; kind <= 3; kind++) {
                int k = kind;
                Twins.stays("n 7 of kind " + kind, Twins::rich, -1, x -> x.sheet(k, 7, 5, 5));
                Twins.stays("the greatest n of kind " + kind, Twins::rich, -1, x -> x.sheet(k, Integer.MAX_VALUE, 5, 5));
            }
            Check.eq("6 can be", Twins.rich().sheet(2, 6, 5, 5), 4);
        });
    }
}
