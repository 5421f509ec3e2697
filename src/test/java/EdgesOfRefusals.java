import java.util.LinkedHashMap;
import java.util.List;
import java.util.Map;
import java.util.function.Supplier;
import java.util.function.ToLongFunction;

/** The document's second term: the ROW, sets, questions, refused calls, and which answer comes first. */
final class EdgesOfRefusals {
    private static final int LEAST = Integer.MIN_VALUE;
    private static final int MOST = Integer.MAX_VALUE;

    private EdgesOfRefusals() {
    }

    static void all() {
        edge("2. ROW: numbers told last by a call that says so.", EdgesOfRefusals::rowIsToldLast);
        edge("Sets are bits (MIC 0 is 1).", EdgesOfRefusals::setsAreBits);
        edge("Questions change nothing.", EdgesOfRefusals::questionsChangeNothing);
        edge("Refused calls answer NONE, or false, and change nothing but THE TEXT, which a call that reads it empties.", () -> {
            refusedNumbers();
            refusedTexts();
            refusedByWhatThereIs();
        });
        edge("NONE comes ahead of other answers below 0", EdgesOfRefusals::noneComesFirst);
        edge("(where an answer may be below 0, it tells so by the ROW or is thrown);", EdgesOfRefusals::answersBelowZero);
        edge("the ROW stays with each answer that tells of a refusal or that there is none,", EdgesOfRefusals::rowStaysWithNone);
        edge("and with calls that do not tell of it.", EdgesOfRefusals::rowStaysWithOthers);
    }

    private static void edge(String words, Check.Call test) {
        Edges.edge(Edges.TERMS, words, test);
    }

    /** Calls that tell the ROW of Twins.rich(), and how many numbers. */
    private static Map<String, ToLongFunction<MicRow>> telling() {
        Map<String, ToLongFunction<MicRow>> all = new LinkedHashMap<>();
        all.put("3 level", x -> x.level(1));
        all.put("3 beams", x -> x.beams(-8));
        all.put("2 weights", x -> x.weights(8));
        all.put("1 loudest", x -> x.loudest(1));
        all.put("17 pattern", MicRow::pattern);
        all.put("1 agree", x -> x.agree(0, 1, 0));
        all.put("2 from", MicRow::from);
        all.put("4 tracks", x -> x.tracks(4));
        all.put("2 strongest", x -> x.strongest(0));
        all.put("2 faults", x -> x.faults(0));
        all.put("2 clipped", x -> x.clipped(0));
        all.put("1 without", x -> x.without(0, 0));
        all.put("1 worst", x -> x.worst(0));
        all.put("1 best", x -> x.best(2, 0));
        all.put("1 masks", x -> x.masks(0));
        all.put("2 nulled", x -> x.nulled(0, 3));
        all.put("1 behind", x -> x.behind(0, 2));
        all.put("1 later", x -> x.later(0));
        all.put("1 years", x -> x.years(1, 30));
        return all;
    }

    private static void rowIsToldLast() {
        MicRow x = Twins.rich();
        Check.eq("of a new object", new MicRow().count(7), 0);
        for (Map.Entry<String, ToLongFunction<MicRow>> one : telling().entrySet()) {
            x.pattern();
            one.getValue().applyAsLong(x);
            String[] words = one.getKey().split(" ");
            int many = Integer.parseInt(words[0]);
            Check.eq("numbers of " + words[1], x.count(7), many);
            Check.none("none behind those of " + words[1], () -> x.row(many));
        }
        x.pattern();
        Check.eq("doubtful tells as many as it answers", x.doubtful(), x.count(7));
        x.pattern();
        Check.day(x, "");
        Check.row("A DAY", x, 0, 13);
    }

    private static void setsAreBits() {
        MicRow x = Check.with("00,01,02,03,04,05", "+0108");
        Check.eq("all", x.count(2), 63);
        x.sets(0, 4, 1);
        Check.eq("MIC 0 is 1", x.count(2), 62);
        x.sets(5, 4, 1);
        Check.eq("MIC 5 is 32", x.count(2), 30);
        x.sets(5, 3, 1);
        Check.eq("QUIET", x.faults(1), 32);
        Check.row("ROUGH", x, 0, 31);
        Check.eq("the best set", x.best(6, 0), 63);
    }

    private static void questionsChangeNothing() {
        MicRow x = Twins.rich();
        MicRow y = Twins.rich();
        List<Long> ahead = Twins.scene(x);
        telling().forEach((name, call) -> call.applyAsLong(x));
        x.doubtful();
        x.settles(3);
        x.mic(0, 0);
        x.source(0, 0);
        x.sample(0, 0);
        x.turned(0, 8, 200);
        x.beam(-8, -200);
        x.blocked(0, 1, 0);
        x.clean(0, 0);
        x.count(0);
        x.row(0);
        Check.yes("all is as it was", ahead.equals(Twins.scene(x)));
        Check.eq("THE TEXT", x.count(8), 2);
        Check.eq("what can be undone", x.count(6), 8);
        y.beams(0);
        x.beams(0);
        Twins.same("then", x, y);
    }

    private static void refusedNumbers() {
        for (int far : new int[] {-1, LEAST, MOST}) {
            none("level", x -> x.level(far));
            none("agree, one", x -> x.agree(far, 0, 0));
            none("agree, other", x -> x.agree(0, far, 0));
            none("strongest", x -> x.strongest(far));
            none("clipped", x -> x.clipped(far));
            none("without", x -> x.without(far, 0));
            none("behind, one", x -> x.behind(far, 0));
            none("behind, other", x -> x.behind(0, far));
            none("tracks", x -> x.tracks(far));
            none("faults", x -> x.faults(far));
            none("later", x -> x.later(far));
            none("best", x -> x.best(far, 0));
            none("sets, m", x -> x.sets(far, 0, 5));
            none("sets, what", x -> x.sets(0, far, 1));
            none("sets, v", x -> x.sets(0, 1, far));
            none("holds, what", x -> x.holds(far, 5));
            none("holds, v", x -> x.holds(1, far));
            none("moves, m", x -> x.moves(far, 3));
            none("moves, place", x -> x.moves(0, far));
            none("sorts", x -> x.sorts(far));
            none("aims, s", x -> x.aims(far, 0, 0));
            none("aims, what", x -> x.aims(0, far, 1));
            none("goes", x -> x.goes(far));
            none("years", x -> x.years(1, far));
            none("sheet, kind", x -> x.sheet(far, 1, 5, 5));
            none("count", x -> x.count(far));
            Twins.stays("end(" + far + ")", Twins::rich, 0, x -> x.end(far) ? 1 : 0);
            Twins.stays("keep(" + far + ")", Twins::rich, 0, x -> x.keep(far) ? 1 : 0);
            Twins.stays("again(" + far + ")", Twins::rich, 0, x -> x.again(far) ? 1 : 0);
        }
        for (int far : new int[] {-9, 9, LEAST, MOST}) {
            none("beams", x -> x.beams(far));
            none("weights", x -> x.weights(far));
            none("agree, b", x -> x.agree(0, 1, far));
            none("without, b", x -> x.without(0, far));
            none("worst", x -> x.worst(far));
            none("best, b", x -> x.best(1, far));
            none("masks", x -> x.masks(far));
            none("nulled, b", x -> x.nulled(far, 0));
            none("nulled, d", x -> x.nulled(0, far));
            none("settles", x -> x.settles(far));
            none("loudest", x -> x.loudest(far));
            none("aims, v", x -> x.aims(0, 0, far));
        }
        none("sheet, n", x -> x.sheet(2, MOST, 5, 5));
    }

    private static void none(String what, ToLongFunction<MicRow> call) {
        Twins.stays(what, Twins::rich, -1, call);
    }

    private static void refusedTexts() {
        Twins.emptied("x", Twins::rich, -1, MicRow::mics);
        Twins.emptied("03,04,05,0", Twins::rich, -11, MicRow::mics);
        Twins.emptied("x", Twins::rich, -1, MicRow::sources);
        Twins.emptied("+0188;-3", Twins::rich, -9, MicRow::sources);
        Twins.emptied("x", Twins::rich, -1, MicRow::day);
        Twins.emptied("o01g0", Twins::rich, -6, MicRow::day);
        Twins.stays("sign beyond 80", EdgesOfRefusals::fullText, -1, x -> x.sign(0x30303030));
    }

    private static MicRow fullText() {
        MicRow x = Twins.rich();
        while (x.count(8) < 80) {
            x.end(x.count(8) / 4 * 4);
            x.sign(0x6c6c6c6c);
        }
        return x;
    }

    private static void refusedByWhatThereIs() {
        Twins.stays("undo of none", EdgesOfRefusals::nothingToUndo, -1, MicRow::undo);
        Twins.stays("again of nothing kept", EdgesOfRefusals::nothingKept, 0, x -> x.again(0) ? 1 : 0);
        Twins.stays("both are one", Twins::rich, -1, x -> x.agree(2, 2, 0));
        Twins.stays("both are one", Twins::rich, -1, x -> x.behind(2, 2));
        Twins.stays("it is OUT already", Twins::rich, -1, x -> x.without(1, 0));
        Twins.stays("the last would begin above 200", EdgesOfRefusals::late, -1, x -> x.tracks(2));
        Twins.stays("no SOURCE", Twins::noSources, -1, x -> x.goes(0));
        Twins.stays("no SOURCE", Twins::noSources, -1, x -> x.aims(0, 0, 0));
    }

    private static MicRow nothingToUndo() {
        MicRow x = Twins.rich();
        x.again(1);
        return x;
    }

    private static MicRow nothingKept() {
        MicRow x = Check.with("02,05", "+3254871");
        x.beams(2);
        return x;
    }

    private static MicRow late() {
        MicRow x = Twins.rich();
        x.holds(1, 192);
        return x;
    }

    private static void noneComesFirst() {
        // Without the wrong number each would answer -2 or -3.
        first("sheet: n below 0", Twins::rich, x -> x.sheet(4, -1, 5, 5));
        first("sheet: missing", Twins::rich, x -> x.sheet(3, 7, 5, 5));
        first("loudest", Twins::noneLive, x -> x.loudest(2));
        first("tracks: n", Twins::oneLive, x -> x.tracks(13));
        first("tracks: the last", EdgesOfRefusals::lateOneLive, x -> x.tracks(2));
        first("strongest", Twins::noSources, x -> x.strongest(4));
        first("without: b", Twins::oneLive, x -> x.without(0, 9));
        first("without: it is OUT", Twins::noneLive, x -> x.without(0, 0));
        first("worst", Twins::oneLive, x -> x.worst(9));
        first("best: b", Twins::rich, x -> x.best(5, -9));
        first("best: n", Twins::rich, x -> x.best(7, 0));
        first("masks", Twins::noSources, x -> x.masks(9));
        first("later", Twins::oneLive, x -> x.later(201));
        first("settles", Twins::oneLive, x -> x.settles(-9));
        first("moves: 41", Twins::rich, x -> x.moves(0, 41));
        first("moves: -1", Twins::rich, x -> x.moves(3, -1));
        first("sorts of no MICS", MicRow::new, x -> x.sorts(49));
    }

    private static void first(String what, Supplier<MicRow> scene, ToLongFunction<MicRow> call) {
        Twins.stays(what, scene, -1, call);
    }

    private static MicRow lateOneLive() {
        MicRow x = Twins.oneLive();
        x.holds(1, 192);
        return x;
    }

    private static void answersBelowZero() {
        MicRow x = Check.with("00,01", "-8108");
        Check.eq("a DIRECTION below 0", x.source(0, 0), -8);
        Check.none("none such is thrown", () -> x.source(1, 0));
        Check.eq("a SAMPLE below 0", x.sample(0, 0), -32);
        Check.none("none such is thrown", () -> x.sample(2, 0));
        Check.eq("DIRECTION as it was, 8 more", x.aims(0, 0, 0), 0);
        x.sets(0, 3, 1);
        x.weights(0);
        Check.row("a weight below 0 is told by the ROW", x, -8);
    }

    private static void rowStaysWithNone() {
        Twins.stays("sheet", Twins::rich, -2, x -> x.sheet(2, -1, 5, 5));
        Twins.stays("sheet", Twins::rich, -3, x -> x.sheet(3, 2, 5, 5));
        Twins.stays("loudest", Twins::noneLive, -2, x -> x.loudest(0));
        Twins.stays("loudest", Twins::noneLive, -2, x -> x.loudest(1));
        Twins.stays("pattern", Twins::noneLive, -2, MicRow::pattern);
        Twins.stays("from", Twins::oneLive, -2, MicRow::from);
        Twins.stays("doubtful", Twins::oneLive, -2, MicRow::doubtful);
        Twins.stays("tracks", Twins::oneLive, -2, x -> x.tracks(1));
        Twins.stays("strongest", Twins::noSources, -2, x -> x.strongest(0));
        Twins.stays("without", Twins::oneLive, -2, x -> x.without(0, 0));
        Twins.stays("worst", Twins::oneLive, -2, x -> x.worst(0));
        Twins.stays("best", Twins::rich, -2, x -> x.best(5, 0));
        Twins.stays("masks", Twins::noSources, -2, x -> x.masks(0));
        Twins.stays("later", Twins::oneLive, -2, x -> x.later(0));
        Twins.stays("settles", Twins::oneLive, -2, x -> x.settles(0));
        Twins.stays("settles", Twins::rich, -2, x -> x.settles(-8));
        Twins.stays("sets", Twins::rich, -2, x -> x.sets(0, 0, 150));
        Twins.stays("holds", Twins::rich, -2, x -> x.holds(2, 9));
        Twins.stays("moves", Twins::rich, -2, x -> x.moves(0, 2));
        Twins.stays("moves", Twins::rich, -3, x -> x.moves(0, 5));
        Twins.stays("learns", EdgesOfRefusals::quiet, -2, MicRow::learns);
        Twins.stays("sorts", EdgesOfRefusals::sorted, -2, x -> x.sorts(5));
        Twins.stays("aims", Twins::rich, -2, x -> x.aims(0, 0, 3));
        Twins.stays("aims", Twins::rich, -2, x -> x.aims(1, 1, 3));
    }

    private static MicRow quiet() {
        MicRow x = Twins.noSources();
        x.sets(1, 1, 0);
        return x;
    }

    private static MicRow sorted() {
        MicRow x = Twins.rich();
        x.sorts(5);
        return x;
    }

    private static void rowStaysWithOthers() {
        MicRow x = Twins.rich();
        x.doubtful();
        x.weights(0);
        long[] told = {x.row(0), x.row(1)};
        x.sign(0);
        x.end(0);
        x.sheet(2, 2, 90, 7);
        x.mic(0, 0);
        x.source(0, 0);
        x.sample(0, 0);
        x.turned(0, 0, 0);
        x.beam(0, 0);
        x.blocked(0, 0, 0);
        x.clean(0, 0);
        x.settles(0);
        Check.row("texts and questions", x, told);
        x.sets(0, 1, 5);
        x.holds(0, 31);
        x.moves(0, 1);
        x.learns();
        x.sorts(1);
        x.aims(0, 0, -3);
        x.goes(0);
        x.undo();
        x.keep(0);
        x.again(0);
        x.count(7);
        Check.row("changes", x, told);
        Check.mics(x, "00,03");
        Check.sources(x, "+0108");
        Check.row("mics and sources", x, told);
    }
}
