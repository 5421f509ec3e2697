import java.util.ArrayList;
import java.util.Arrays;
import java.util.List;
import java.util.NoSuchElementException;
import java.util.TreeMap;

/**
 * The document written down once more, as slowly and literally as it reads, with no rows kept between calls.
 * RandomRuns holds MicRow against it.
 */
final class PlainModel {
    static final class Mic {
        int place, gain = 100, wind, equal = 100;
        boolean dead, out;

        Mic copy() {
            Mic c = new Mic();
            c.place = place;
            c.gain = gain;
            c.wind = wind;
            c.equal = equal;
            c.dead = dead;
            c.out = out;
            return c;
        }
    }

    static final class Source {
        int direction, loud;
        List<Integer> wave = new ArrayList<>();

        Source copy() {
            Source c = new Source();
            c.direction = direction;
            c.loud = loud;
            c.wave = new ArrayList<>(wave);
            return c;
        }
    }

    static final class State {
        List<Mic> mics = new ArrayList<>();
        List<Source> sources = new ArrayList<>();
        int clip = 9999, begin = 0, length = 16;

        State copy() {
            State c = new State();
            for (Mic m : mics) c.mics.add(m.copy());
            for (Source s : sources) c.sources.add(s.copy());
            c.clip = clip;
            c.begin = begin;
            c.length = length;
            return c;
        }

        List<Integer> live() {
            List<Integer> all = new ArrayList<>();
            for (int m = 0; m < mics.size(); m++) if (!mics.get(m).out) all.add(m);
            return all;
        }

        int liveBits() {
            int bits = 0;
            for (int m : live()) bits += 1 << m;
            return bits;
        }

        long w(Source s, int k) {
            int n = s.wave.size();
            return s.wave.get(((k % n) + n) % n);
        }

        long heard(Source s, int p, int t) {
            int x = 8 * t - p * s.direction;
            int k = (int) Math.floor(x / 8.0);
            int f = x - 8 * k;
            return s.loud * ((8 - f) * w(s, k) + f * w(s, k + 1));
        }

        long gust(int m, int t) {
            long s = ((long) (t + 300) * (t + 300) * 7 + (long) (m + 1) * (t + 311) * 13) % 1009;
            return ((s % 17) - 8) * 8;
        }

        long sampleOf(int m, int t) {
            Mic mic = mics.get(m);
            if (mic.dead) return 0;
            long sum = mic.wind * gust(m, t);
            for (Source s : sources) sum += heard(s, mic.place, t);
            long v = sum * mic.gain / 100;
            return v > clip ? clip : v < -clip ? -clip : v;
        }

        long turnedOf(int m, int b, int t) {
            int x = 8 * t + mics.get(m).place * b;
            int k = (int) Math.floor(x / 8.0);
            int f = x - 8 * k;
            long mixed = ((8 - f) * sampleOf(m, k) + f * sampleOf(m, k + 1)) / 8;
            return mixed * mics.get(m).equal / 100;
        }

        long beamOf(int b, int t) {
            List<Integer> live = live();
            if (live.isEmpty()) return 0;
            long sum = 0;
            for (int m : live) sum += turnedOf(m, b, t);
            return sum / live.size();
        }

        long blockedOf(int b, int j, int t) {
            return turnedOf(live().get(j), b, t) - turnedOf(live().get(j + 1), b, t);
        }

        int weightCount() {
            return Math.max(0, live().size() - 1);
        }

        long cleanOf(long beam, long[] blocked, long[] weights) {
            long sum = 0;
            for (int j = 0; j < weights.length; j++) sum += weights[j] * blocked[j];
            return beam - sum / 16;
        }

        long[] blockedAt(int b, int t) {
            long[] all = new long[weightCount()];
            for (int j = 0; j < all.length; j++) all[j] = blockedOf(b, j, t);
            return all;
        }

        long[] weightsOf(int b) {
            long[] beams = new long[length];
            long[][] blocked = new long[length][];
            for (int i = 0; i < length; i++) {
                beams[i] = beamOf(b, begin + i);
                blocked[i] = blockedAt(b, begin + i);
            }
            long[] weights = new long[weightCount()];
            for (int round = 0; round < 3; round++) {
                for (int j = 0; j < weights.length; j++) {
                    long best = 0, least = Long.MAX_VALUE;
                    for (long v : bySize(16)) {
                        weights[j] = v;
                        long[] cleans = new long[length];
                        for (int i = 0; i < length; i++) cleans[i] = cleanOf(beams[i], blocked[i], weights);
                        if (power(cleans) < least) {
                            least = power(cleans);
                            best = v;
                        }
                    }
                    weights[j] = best;
                }
            }
            return weights;
        }

        long[] beamRow(int b) {
            long[] all = new long[length];
            for (int i = 0; i < length; i++) all[i] = beamOf(b, begin + i);
            return all;
        }

        long[] cleanRow(int b, long[] weights) {
            long[] all = new long[length];
            for (int i = 0; i < length; i++) {
                all[i] = cleanOf(beamOf(b, begin + i), blockedAt(b, begin + i), weights);
            }
            return all;
        }

        long[] sampleRow(int m) {
            long[] all = new long[length];
            for (int i = 0; i < length; i++) all[i] = sampleOf(m, begin + i);
            return all;
        }

        int agreeOf(int one, int other, int b) {
            int n = 0;
            for (int t = begin; t < begin + length; t++) {
                if (Long.signum(turnedOf(one, b, t)) == Long.signum(turnedOf(other, b, t))) n++;
            }
            return n;
        }

        int agreeAll(int b) {
            List<Integer> live = live();
            int n = 0;
            for (int i = 0; i < live.size(); i++) {
                for (int j = i + 1; j < live.size(); j++) n += agreeOf(live.get(i), live.get(j), b);
            }
            return n;
        }

        int fromOf() {
            int best = 0, most = -1;
            for (long b : bySize(8)) {
                int n = agreeAll((int) b);
                if (n > most) {
                    most = n;
                    best = (int) b;
                }
            }
            return best;
        }

        boolean quiet(int m) {
            for (long v : sampleRow(m)) if (v != 0) return false;
            return true;
        }

        int clippedOf(int m) {
            int n = 0;
            for (long v : sampleRow(m)) if (v == clip || v == -clip) n++;
            return n;
        }

        int roughOf(int m) {
            int n = 0;
            long[] all = sampleRow(m);
            for (int i = 1; i < all.length; i++) if (Long.signum(all[i]) != Long.signum(all[i - 1])) n++;
            return n;
        }
    }

    static List<Long> bySize(int far) {
        List<Long> all = new ArrayList<>();
        for (long v = -far; v <= far; v++) all.add(v);
        all.sort((a, b) -> Math.abs(a) != Math.abs(b) ? Long.compare(Math.abs(a), Math.abs(b)) : Long.compare(b, a));
        return all;
    }

    static long power(long[] row) {
        long sum = 0;
        for (long v : row) sum += v * v;
        return sum / row.length;
    }

    static long levelOf(long[] row) {
        long sum = 0;
        for (long v : row) sum += Math.abs(v);
        return sum / row.length;
    }

    private State now = new State();
    private final List<State> past = new ArrayList<>();
    private final TreeMap<Integer, State> kept = new TreeMap<>();
    private String text = "";
    private List<Long> row = new ArrayList<>();

    private void tell(long... numbers) {
        row = new ArrayList<>();
        for (long n : numbers) row.add(n);
    }

    List<Long> told() {
        return row;
    }

    private boolean mic(int m) {
        return m >= 0 && m < now.mics.size();
    }

    private static boolean in(int v, int least, int most) {
        return v >= least && v <= most;
    }

    private static boolean dir(int b) {
        return in(b, -8, 8);
    }

    private static void need(boolean b) {
        if (!b) throw new NoSuchElementException();
    }

    private void push(State s) {
        past.add(s);
        if (past.size() > 8) past.remove(0);
    }

    // ---- texts

    public int sign(int v) {
        if (text.length() > 76) return -1;
        for (int k = 3; k >= 0; k--) text += (char) ((v >> (8 * k)) & 0xff);
        return text.length();
    }

    public boolean end(int n) {
        if (n < 0 || n > text.length()) return false;
        text = text.substring(0, n);
        return true;
    }

    /** How far a text goes along some way of the form, by trying each beginning: the first sign that can't stand. */
    private interface Form {
        /** 0: no text begins so; 1: some text begins so; 2: it is a whole text. */
        int fits(String s);
    }

    private static int firstWrong(String s, Form form) {
        for (int n = 1; n <= s.length(); n++) if (form.fits(s.substring(0, n)) == 0) return n - 1;
        return form.fits(s) == 2 ? -1 : s.length();
    }

    private static boolean isDigit(char c) {
        return c >= '0' && c <= '9';
    }

    private static int micsForm(String s) {
        if (s.isEmpty()) return 2;
        String[] parts = s.split(",", -1);
        if (parts.length > 6) return 0;
        int last = -1;
        for (int i = 0; i < parts.length; i++) {
            String p = parts[i];
            if (p.length() > 2) return 0;
            for (char c : p.toCharArray()) if (!isDigit(c)) return 0;
            if (p.length() < 2) return i == parts.length - 1 ? 1 : 0;
            int v = Integer.parseInt(p);
            if (v > 40 || v <= last) return 0;
            last = v;
        }
        return 2;
    }

    private static int sourcesForm(String s) {
        if (s.isEmpty()) return 2;
        String[] parts = s.split(";", -1);
        if (parts.length > 4) return 0;
        for (int i = 0; i < parts.length; i++) {
            String p = parts[i];
            if (p.matches("[+-][0-8][1-9][0-8]{2,12}")) continue;
            if (i < parts.length - 1) return 0;
            return p.matches("([+-]([0-8]([1-9][0-8]?)?)?)?") ? 1 : 0;
        }
        return 2;
    }

    private static final String ACTS = "g[0-9]{4}|w[0-9]{2}|d[0-9]{2}|o[0-9]{2}|c[0-9]{4}|b[0-9]{3}|l|s[0-9]{2}|a[0-9][+-][0-8]";

    private static int dayForm(String s) {
        String rest = s.replaceAll("(?s)^(" + ACTS + ")*", "");
        if (rest.isEmpty()) return 2;
        return rest.matches("(g[0-9]{0,3}|[wdos][0-9]?|c[0-9]{0,3}|b[0-9]{0,2}|a([0-9][+-]?)?)") ? 1 : 0;
    }

    public int mics() {
        String s = text;
        text = "";
        int wrong = firstWrong(s, PlainModel::micsForm);
        if (wrong >= 0) return -1 - wrong;
        push(now.copy());
        now.mics.clear();
        if (!s.isEmpty()) {
            for (String p : s.split(",")) {
                Mic m = new Mic();
                m.place = Integer.parseInt(p);
                now.mics.add(m);
            }
        }
        return now.mics.size();
    }

    public int sources() {
        String s = text;
        text = "";
        int wrong = firstWrong(s, PlainModel::sourcesForm);
        if (wrong >= 0) return -1 - wrong;
        push(now.copy());
        now.sources.clear();
        if (!s.isEmpty()) {
            for (String p : s.split(";")) {
                Source q = new Source();
                q.direction = Integer.parseInt(p.substring(0, 2));
                q.loud = p.charAt(2) - '0';
                for (char c : p.substring(3).toCharArray()) q.wave.add(c - '4');
                now.sources.add(q);
            }
        }
        return now.sources.size();
    }

    public int sheet(int kind, int n, int f, int step) {
        if (!in(kind, 0, 3) || n > 6) return -1;
        if (kind == 3) return -3;
        if (n < 0) return -2;
        int others = 0;
        for (int k = 0; k < n && k < now.mics.size(); k++) {
            int v = f + k * step;
            if (kind == 0) v = (byte) v;
            if (kind == 1) v = (short) v;
            v = Math.min(400, Math.max(1, v));
            if (now.mics.get(k).gain != v) others++;
            now.mics.get(k).gain = v;
        }
        return others;
    }

    // ---- what there is

    public int mic(int m, int what) {
        need(mic(m) && in(what, 0, 5));
        Mic q = now.mics.get(m);
        return new int[] {q.place, q.gain, q.wind, q.equal, q.dead ? 1 : 0, q.out ? 1 : 0}[what];
    }

    public int source(int s, int what) {
        need(s >= 0 && s < now.sources.size());
        Source q = now.sources.get(s);
        need(what >= 0 && what <= 2 + q.wave.size());
        return what == 0 ? q.direction : what == 1 ? q.loud : what == 2 ? q.wave.size() : q.wave.get(what - 3);
    }

    public int sample(int m, int t) {
        need(mic(m) && in(t, -300, 300));
        return (int) now.sampleOf(m, t);
    }

    public int turned(int m, int b, int t) {
        need(mic(m) && dir(b) && in(t, -200, 200));
        return (int) now.turnedOf(m, b, t);
    }

    public int beam(int b, int t) {
        need(dir(b) && in(t, -200, 200));
        return (int) now.beamOf(b, t);
    }

    public int blocked(int b, int j, int t) {
        need(dir(b) && in(t, -200, 200) && j >= 0 && j < now.weightCount());
        return (int) now.blockedOf(b, j, t);
    }

    public int clean(int b, int t) {
        need(dir(b) && in(t, -200, 200));
        return (int) now.cleanOf(now.beamOf(b, t), now.blockedAt(b, t), now.weightsOf(b));
    }

    // ---- over the SPAN

    public int level(int m) {
        if (!mic(m)) return -1;
        long[] all = now.sampleRow(m);
        long size = 0;
        for (long v : all) size = Math.max(size, Math.abs(v));
        int t = now.begin;
        while (Math.abs(now.sampleOf(m, t)) != size) t++;
        tell(power(all), size, t);
        return (int) levelOf(all);
    }

    public int beams(int b) {
        if (!dir(b)) return -1;
        long[] clean = now.cleanRow(b, now.weightsOf(b));
        tell(power(now.beamRow(b)), levelOf(clean), power(clean));
        return (int) levelOf(now.beamRow(b));
    }

    public int weights(int b) {
        if (!dir(b)) return -1;
        tell(now.weightsOf(b));
        return now.weightCount();
    }

    public int loudest(int what) {
        if (!in(what, 0, 1)) return -1;
        if (now.live().isEmpty()) return -2;
        long most = -1, best = 0;
        for (long b : bySize(8)) {
            int d = (int) b;
            long p = power(what == 0 ? now.beamRow(d) : now.cleanRow(d, now.weightsOf(d)));
            if (p > most) {
                most = p;
                best = b;
            }
        }
        tell(most);
        return (int) best + 8;
    }

    public int pattern() {
        if (now.live().isEmpty()) return -2;
        long[] levels = new long[17];
        int best = 0;
        for (int i = 0; i < 17; i++) {
            levels[i] = levelOf(now.beamRow(i - 8));
            if (levels[i] < levels[best]) best = i;
        }
        tell(levels);
        return best;
    }

    public int agree(int one, int other, int b) {
        if (!mic(one) || !mic(other) || one == other || !dir(b)) return -1;
        tell(now.length);
        return now.agreeOf(one, other, b);
    }

    public int from() {
        int n = now.live().size();
        if (n < 2) return -2;
        int b = now.fromOf();
        tell(now.agreeAll(b), n * (n - 1) / 2);
        return b + 8;
    }

    public int doubtful() {
        if (now.live().size() < 2) return -2;
        int most = now.agreeAll(now.fromOf());
        long[] all = new long[17];
        int n = 0;
        for (int b = -8; b <= 8; b++) if (now.agreeAll(b) == most) all[n++] = b + 8;
        tell(Arrays.copyOf(all, n));
        return n;
    }

    public int tracks(int n) {
        if (!in(n, 1, 12) || now.begin + (n - 1) * now.length > 200) return -1;
        if (now.live().size() < 2) return -2;
        State s = now.copy();
        long[] all = new long[n];
        int others = 0;
        for (int i = 0; i < n; i++) {
            s.begin = now.begin + i * now.length;
            all[i] = s.fromOf() + 8;
            if (i > 0 && all[i] != all[i - 1]) others++;
        }
        tell(all);
        return others;
    }

    public int strongest(int m) {
        if (!mic(m)) return -1;
        if (now.sources.isEmpty()) return -2;
        long most = -1;
        int best = 0;
        for (int s = 0; s < now.sources.size(); s++) {
            State alone = now.copy();
            alone.sources = List.of(now.sources.get(s));
            long p = power(alone.sampleRow(m));
            if (p > most) {
                most = p;
                best = s;
            }
        }
        tell(most, power(now.sampleRow(m)));
        return best;
    }

    public int faults(int n) {
        if (!in(n, 0, 48)) return -1;
        int quiet = 0, clip = 0, rough = 0;
        for (int m = 0; m < now.mics.size(); m++) {
            if (now.quiet(m)) quiet += 1 << m;
            if (now.clippedOf(m) >= n) clip += 1 << m;
            if (now.roughOf(m) >= n) rough += 1 << m;
        }
        tell(clip, rough);
        return quiet;
    }

    public int clipped(int m) {
        if (!mic(m)) return -1;
        tell(now.roughOf(m), now.quiet(m) ? 1 : 0);
        return now.clippedOf(m);
    }

    // ---- what would be

    public int without(int m, int b) {
        if (!mic(m) || now.mics.get(m).out || !dir(b)) return -1;
        if (now.live().size() == 1) return -2;
        State s = now.copy();
        s.mics.get(m).out = true;
        tell(power(now.beamRow(b)));
        return (int) power(s.beamRow(b));
    }

    public int worst(int b) {
        if (!dir(b)) return -1;
        if (now.live().size() < 2) return -2;
        long least = Long.MAX_VALUE;
        int best = 0;
        for (int m : now.live()) {
            State s = now.copy();
            s.mics.get(m).out = true;
            long p = power(s.cleanRow(b, s.weightsOf(b)));
            if (p < least) {
                least = p;
                best = m;
            }
        }
        tell(least);
        return best;
    }

    public int best(int n, int b) {
        if (!in(n, 1, 6) || !dir(b)) return -1;
        if (now.mics.size() < n) return -2;
        long least = Long.MAX_VALUE;
        int best = 0;
        for (int bits = 0; bits < 1 << now.mics.size(); bits++) {
            if (Integer.bitCount(bits) != n) continue;
            State s = now.copy();
            for (int m = 0; m < s.mics.size(); m++) s.mics.get(m).out = (bits & 1 << m) == 0;
            long p = power(s.beamRow(b));
            if (p < least) {
                least = p;
                best = bits;
            }
        }
        tell(least);
        return best;
    }

    public int masks(int b) {
        if (!dir(b)) return -1;
        if (now.sources.isEmpty()) return -2;
        long least = Long.MAX_VALUE;
        int best = 0;
        for (int q = 0; q < now.sources.size(); q++) {
            State s = now.copy();
            s.sources.remove(q);
            long p = power(s.beamRow(b));
            if (p < least) {
                least = p;
                best = q;
            }
        }
        tell(least);
        return best;
    }

    public int nulled(int b, int d) {
        if (!dir(b) || !dir(d)) return -1;
        State s = now.copy();
        s.sources.removeIf(q -> q.direction != d);
        tell(power(now.cleanRow(b, s.weightsOf(b))), power(now.beamRow(b)));
        return s.sources.size();
    }

    public int behind(int one, int other) {
        if (!mic(one) || !mic(other) || one == other) return -1;
        int most = -1, best = 0;
        for (long s : bySize(8)) {
            int n = 0;
            for (int t = now.begin; t < now.begin + now.length; t++) {
                if (Long.signum(now.sampleOf(one, t + (int) s)) == Long.signum(now.sampleOf(other, t))) n++;
            }
            if (n > most) {
                most = n;
                best = (int) s;
            }
        }
        tell(most);
        return best + 8;
    }

    public int later(int begin) {
        if (!in(begin, 0, 200)) return -1;
        if (now.live().size() < 2) return -2;
        State s = now.copy();
        s.begin = begin;
        tell(s.agreeAll(s.fromOf()));
        return s.fromOf() + 8;
    }

    public int settles(int d) {
        if (!dir(d)) return -1;
        if (now.live().size() < 2) return -2;
        int[] froms = new int[49];
        State s = now.copy();
        for (s.length = 4; s.length <= 48; s.length++) froms[s.length] = s.fromOf();
        for (int n = 4; n <= 48; n++) {
            boolean all = true;
            for (int k = n; k <= Math.min(48, n + 4); k++) all &= froms[k] == d;
            if (all) return n;
        }
        return -2;
    }

    // ---- changes

    private int set(int m, int what, int v) {
        if (!mic(m) || !in(what, 0, 4)) return -1;
        if (!in(v, new int[] {1, 0, 1, 0, 0}[what], new int[] {400, 9, 200, 1, 1}[what])) return -1;
        int was = mic(m, what + 1);
        if (was == v) return -2;
        Mic q = now.mics.get(m);
        if (what == 0) q.gain = v;
        if (what == 1) q.wind = v;
        if (what == 2) q.equal = v;
        if (what == 3) q.dead = v == 1;
        if (what == 4) q.out = v == 1;
        return was;
    }

    private int hold(int what, int v) {
        if (what == 0 && in(v, 1, 9999)) {
            int was = now.clip;
            now.clip = v;
            return was == v ? -2 : was;
        }
        if (what == 1 && in(v, 0, 200)) {
            int was = now.begin;
            now.begin = v;
            return was == v ? -2 : was;
        }
        if (what == 2 && in(v, 4, 48)) {
            int was = now.length;
            now.length = v;
            return was == v ? -2 : was;
        }
        return -1;
    }

    private int move(int m, int place) {
        if (!mic(m) || !in(place, 0, 40)) return -1;
        int was = now.mics.get(m).place;
        if (was == place) return -2;
        now.mics.get(m).place = place;
        for (int k = 1; k < now.mics.size(); k++) {
            if (now.mics.get(k).place <= now.mics.get(k - 1).place) {
                now.mics.get(m).place = was;
                return -3;
            }
        }
        return was;
    }

    private int learn() {
        long greatest = -1;
        for (int m = 0; m < now.mics.size(); m++) {
            if (!now.quiet(m)) greatest = Math.max(greatest, levelOf(now.sampleRow(m)));
        }
        if (greatest < 0) return -2;
        int others = 0;
        for (int m = 0; m < now.mics.size(); m++) {
            if (now.quiet(m)) continue;
            long own = levelOf(now.sampleRow(m));
            int equal = own == 0 ? 200 : (int) Math.max(1, Math.min(200, 100 * greatest / own));
            if (now.mics.get(m).equal != equal) others++;
            now.mics.get(m).equal = equal;
        }
        return others;
    }

    private int sort(int n) {
        if (!in(n, 1, 48)) return -1;
        boolean same = true;
        int outs = 0;
        for (int m = 0; m < now.mics.size(); m++) {
            boolean out = now.quiet(m) || now.clippedOf(m) >= n;
            same &= now.mics.get(m).out == out;
            now.mics.get(m).out = out;
            if (out) outs++;
        }
        return same ? -2 : outs;
    }

    private int aim(int s, int what, int v) {
        if (s < 0 || s >= now.sources.size()) return -1;
        Source q = now.sources.get(s);
        if (what == 0 && dir(v)) {
            int was = q.direction;
            q.direction = v;
            return was == v ? -2 : was + 8;
        }
        if (what == 1 && in(v, 1, 9)) {
            int was = q.loud;
            q.loud = v;
            return was == v ? -2 : was;
        }
        return -1;
    }

    private int done(State ahead, int answer) {
        if (answer >= 0) push(ahead);
        return answer;
    }

    public int sets(int m, int what, int v) {
        return done(now.copy(), set(m, what, v));
    }

    public int holds(int what, int v) {
        return done(now.copy(), hold(what, v));
    }

    public int moves(int m, int place) {
        return done(now.copy(), move(m, place));
    }

    public int learns() {
        return done(now.copy(), learn());
    }

    public int sorts(int n) {
        return done(now.copy(), sort(n));
    }

    public int aims(int s, int what, int v) {
        return done(now.copy(), aim(s, what, v));
    }

    public int goes(int s) {
        if (s < 0 || s >= now.sources.size()) return -1;
        push(now.copy());
        now.sources.remove(s);
        return now.sources.size();
    }

    public int day() {
        String s = text;
        text = "";
        int wrong = firstWrong(s, PlainModel::dayForm);
        if (wrong >= 0) return -1 - wrong;
        State ahead = now.copy();
        int acts = 0, stopped = 0;
        java.util.regex.Matcher one = java.util.regex.Pattern.compile(ACTS).matcher(s);
        while (stopped == 0 && one.find()) {
            if (act(one.group()) < 0) stopped = 1;
            else acts++;
        }
        if (acts > 0) push(ahead);
        tell(stopped, now.liveBits());
        return acts;
    }

    private int act(String a) {
        String rest = a.substring(1);
        switch (a.charAt(0)) {
            case 'g': return set(rest.charAt(0) - '0', 0, Integer.parseInt(rest.substring(1)));
            case 'w': return set(rest.charAt(0) - '0', 1, Integer.parseInt(rest.substring(1)));
            case 'd': return set(rest.charAt(0) - '0', 3, Integer.parseInt(rest.substring(1)));
            case 'o': return set(rest.charAt(0) - '0', 4, Integer.parseInt(rest.substring(1)));
            case 'c': return hold(0, Integer.parseInt(rest));
            case 'b': return hold(1, Integer.parseInt(rest));
            case 'l': return learn();
            case 's': return sort(Integer.parseInt(rest));
            default: return aim(rest.charAt(0) - '0', 0, Integer.parseInt(rest.substring(1)));
        }
    }

    public int undo() {
        if (past.isEmpty()) return -1;
        now = past.remove(past.size() - 1);
        return past.size();
    }

    private int r;

    private int draw(int n) {
        r = r * 1103515245 + 12345;
        return (int) ((r & 0xffffffffL) / 65536 % n);
    }

    public int years(int seed, int n) {
        if (!in(n, 1, 30)) return -1;
        State ahead = now.copy();
        r = seed;
        for (int i = 0; i < n; i++) {
            int kind = draw(3), m = draw(6), v = draw(new int[] {10, 2, 300}[kind]);
            if (kind == 0) set(m, 1, v);
            if (kind == 1) set(m, 4, v);
            if (kind == 2) set(m, 0, v + 1);
        }
        int bits = now.liveBits();
        tell(levelOf(now.beamRow(0)));
        now = ahead;
        return bits;
    }

    // ---- kept

    public boolean keep(int i) {
        if (!in(i, 0, 1)) return false;
        kept.put(i, now.copy());
        return true;
    }

    public boolean again(int i) {
        if (!kept.containsKey(i)) return false;
        now = kept.get(i).copy();
        past.clear();
        return true;
    }

    public int count(int what) {
        int[] all = {now.mics.size(), now.sources.size(), now.liveBits(), now.clip, now.begin, now.length,
            past.size(), row.size(), text.length()};
        return in(what, 0, 8) ? all[what] : -1;
    }

    public long row(int i) {
        need(i >= 0 && i < row.size());
        return row.get(i);
    }
}
