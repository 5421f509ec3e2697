/** Promises 44 to 47: what is kept, counted, told. */
public final class KeptTest {
    public static void main(String[] args) {
        promise44Keep();
        promise45Again();
        promise46Count();
        promise47Row();
        Check.finish();
    }

    private static void promise44Keep() {
        MicRow x = Check.with("00,01", "+810088");
        Check.yes("44: keep(0)", x.keep(0));
        Check.yes("44: keep(1)", x.keep(1));
        int[] wrong = {-1, 2, Integer.MIN_VALUE, Integer.MAX_VALUE};
        for (int one : wrong) {
            Check.no("44: keep(" + one + ")", x.keep(one));
        }
        Check.eq("44: undo is not touched", x.count(6), 2);
        x.sets(0, 0, 5);
        Check.yes("44: kept anew", x.keep(1));
        x.sets(0, 0, 6);
        Check.yes("44: again(1)", x.again(1));
        Check.eq("44: the later one", x.mic(0, 1), 5);
        Check.yes("44: again(0)", x.again(0));
        Check.eq("44: the other number stays", x.mic(0, 1), 100);
    }

    private static void promise45Again() {
        MicRow x = Check.with("00,01", "+810088");
        for (int i = -1; i <= 2; i++) {
            int one = i;
            Check.refused("45: nothing kept under " + i, x, 0, y -> y.again(one) ? 1 : 0);
        }
        x.sets(1, 1, 4);
        x.holds(0, 77);
        x.holds(1, 9);
        x.holds(2, 20);
        x.aims(0, 1, 3);
        Check.mark(x);
        long[] kept = Check.seen(x);
        x.keep(0);
        Check.mics(x, "03");
        Check.sources(x, "");
        x.holds(0, 78);
        x.holds(1, 10);
        x.holds(2, 21);
        x.sign(0x41414141);
        Check.yes("45: again(0)", x.again(0));
        kept[6] = 0;
        Check.yes("45: as it was, nothing to undo", java.util.Arrays.equals(kept, Check.seen(x)));
        Check.eq("45: THE TEXT stays", x.count(8), 4);
        x.sets(1, 1, 5);
        Check.yes("45: once more", x.again(0));
        Check.eq("45: what is kept stays kept", x.mic(1, 2), 4);
        Check.refused("45: nothing under 1", x, 0, y -> y.again(1) ? 1 : 0);
        Check.yes("45: far off", !x.again(Integer.MAX_VALUE) && !x.again(Integer.MIN_VALUE));
    }

    private static void promise46Count() {
        MicRow x = Check.with("00,01,05", "+810088;-3354");
        x.sets(1, 4, 1);
        x.holds(0, 123);
        x.holds(1, 45);
        x.holds(2, 6);
        x.pattern();
        x.sign(0);
        long[] due = {3, 2, 5, 123, 45, 6, 6, 17, 4};
        for (int what = 0; what < due.length; what++) {
            Check.eq("46: count(" + what + ")", x.count(what), due[what]);
        }
        int[] wrong = {-1, 9, Integer.MIN_VALUE, Integer.MAX_VALUE};
        for (int one : wrong) {
            Check.eq("46: count(" + one + ")", x.count(one), -1);
        }
        x.sets(0, 3, 1);
        Check.eq("46: DEAD ones are LIVE, if they are not OUT", x.count(2), 5);
    }

    private static void promise47Row() {
        MicRow x = Check.with("00,08", "+210088");
        Check.none("47: of an empty ROW", () -> x.row(0));
        x.doubtful();
        Check.row("47: the ROW", x, 2, 6, 10, 14);
        int[] wrong = {-1, 4, 17, Integer.MIN_VALUE, Integer.MAX_VALUE};
        for (int one : wrong) {
            Check.none("47: row(" + one + ")", () -> x.row(one));
        }
        x.agree(0, 1, 0);
        Check.row("47: told last", x, 16);
        Check.none("47: none behind it", () -> x.row(1));
        x.agree(0, 0, 0);
        x.sets(0, 0, 5);
        x.undo();
        x.keep(0);
        x.again(0);
        x.settles(2);
        x.beam(0, 0);
        Check.row("47: it stays with calls that do not tell of it", x, 16);
        MicRow y = Check.with("00,01,02,03,04,05", "+09080808080808;+09080808080808;+09080808080808;+09080808080808");
        for (int m = 0; m < 6; m++) {
            y.sets(m, 0, 400);
            y.sets(m, 2, 200);
        }
        y.beams(0);
        Check.eq("47: great numbers", y.row(0), 9216L * 9216L);
    }
}
