import java.util.Arrays;
import java.util.NoSuchElementException;

/** Microphones in a row that hear made waves from several directions. */
public final class MicRow {
    public static final int NONE = -1;

    private static final int IT_IS_SO = -2;
    private static final int NOTHING_TO_TELL = -2;
    private static final int BELOW_ZERO = -2;
    private static final int NOT_RISING = -3;
    private static final int MISSING = -3;

    private static final int MOST_MICS = 6;
    private static final int MOST_SOURCES = 4;
    private static final int MOST_SIGNS = 80;
    private static final int LEAST_STEPS = 2;
    private static final int MOST_STEPS = 12;
    private static final int FARTHEST = 8;
    private static final int DIRECTIONS = 17;
    private static final int WEIGHT_CHOICES = 33;
    private static final int LEAST_LONG = 4;
    private static final int MOST_LONG = 48;
    private static final int LAST_BEGIN = 200;
    private static final int LAST_SAMPLE = 300;
    private static final int LAST_TURNED = 200;
    private static final int EVERY_SOURCE = -1;
    // Squares of 48 CLEAN ones together stay below 10 to the 13th.
    private static final long NO_LIMIT = 1000000000000000L;

    // Numbers of a MIC, in the order in which mic() tells them.
    private static final int PLACE = 0;
    private static final int GAIN = 1;
    private static final int WIND = 2;
    private static final int EQUAL = 3;
    private static final int DEAD = 4;
    private static final int OUT = 5;
    private static final int[] MIC_LEAST = {0, 1, 0, 1, 0, 0};
    private static final int[] MIC_MOST = {40, 400, 9, 200, 1, 1};
    private static final int[] MIC_FIRST = {0, 100, 0, 100, 0, 0};

    // Numbers of a SOURCE, in the order in which source() tells them.
    private static final int DIRECTION = 0;
    private static final int LOUD = 1;
    private static final int STEPS = 2;
    private static final int FIRST_STEP = 3;
    private static final int SOURCE_PARTS = 15;
    private static final int[] AIM_LEAST = {-8, 1};
    private static final int[] AIM_MOST = {8, 9};

    // Numbers of the whole row, in the order in which holds() takes them.
    private static final int CLIP = 0;
    private static final int BEGIN = 1;
    private static final int LONG = 2;
    private static final int[] HELD_LEAST = {1, 0, 4};
    private static final int[] HELD_MOST = {9999, 200, 48};

    private final Scene now = new Scene();
    private final Scene before = new Scene();
    private final Scene[] kept = {new Scene(), new Scene()};
    private final boolean[] isKept = new boolean[2];
    private final Past past = new Past();
    private final Letters text = new Letters();
    private final Reader reader = new Reader(text);
    private final Told told = new Told();
    private final Ears ears = new Ears(now);
    private final Bench bench = new Bench(now, ears);
    private final Compass compass = new Compass(bench);
    private final Dice dice = new Dice();

    public MicRow() {
    }

    // ---- texts

    public int sign(int v) {
        return text.addFour(v);
    }

    public boolean end(int n) {
        return text.cutTo(n);
    }

    public int mics() {
        before.copyFrom(now);
        int answer = reader.readMics(now);
        text.cutTo(0);
        return settleChange(answer);
    }

    public int sources() {
        before.copyFrom(now);
        int answer = reader.readSources(now);
        text.cutTo(0);
        return settleChange(answer);
    }

    public int sheet(int kind, int n, int f, int step) {
        if (!within(kind, 0, 3) || n > MOST_MICS) {
            return NONE;
        }
        if (kind == 3) {
            return MISSING;
        }
        if (n < 0) {
            return BELOW_ZERO;
        }
        int others = 0;
        int entry = f;
        for (int m = 0; m < n && now.hasMic(m); m++) {
            int gain = clamp(narrowed(kind, entry), MIC_LEAST[GAIN], MIC_MOST[GAIN]);
            if (now.put(m, GAIN, gain) >= 0) {
                others++;
            }
            entry += step;
        }
        return others;
    }

    private static int narrowed(int kind, int entry) {
        if (kind == 0) {
            return (byte) entry;
        }
        return kind == 1 ? (short) entry : entry;
    }

    // ---- what there is

    public int mic(int m, int what) throws NoSuchElementException {
        demand(now.hasMic(m) && within(what, PLACE, OUT));
        return now.ofMic(m, what);
    }

    public int source(int s, int what) throws NoSuchElementException {
        demand(now.hasSource(s) && what >= 0);
        demand(what < FIRST_STEP || what - FIRST_STEP < now.ofSource(s, STEPS));
        return now.ofSource(s, what);
    }

    public int sample(int m, int t) throws NoSuchElementException {
        demand(now.hasMic(m) && within(t, -LAST_SAMPLE, LAST_SAMPLE));
        ears.listenTo(EVERY_SOURCE);
        return ears.at(m, t);
    }

    public int turned(int m, int b, int t) throws NoSuchElementException {
        demand(now.hasMic(m) && isDirection(b) && isTurnedTime(t));
        ears.listenTo(EVERY_SOURCE);
        bench.turnTo(b, t, 1);
        return bench.turnedRow(m)[0];
    }

    public int beam(int b, int t) throws NoSuchElementException {
        demand(isDirection(b) && isTurnedTime(t));
        ears.listenTo(EVERY_SOURCE);
        bench.turnTo(b, t, 1);
        bench.mix(now.liveSet());
        return bench.beam[0];
    }

    public int blocked(int b, int j, int t) throws NoSuchElementException {
        demand(isDirection(b) && isTurnedTime(t));
        ears.listenTo(EVERY_SOURCE);
        bench.turnTo(b, t, 1);
        bench.block(now.liveSet());
        demand(j >= 0 && j < bench.weightCount);
        return bench.blocked[j][0];
    }

    public int clean(int b, int t) throws NoSuchElementException {
        demand(isDirection(b) && isTurnedTime(t));
        ears.listenTo(EVERY_SOURCE);
        learnWeights(b);
        bench.turnTo(b, t, 1);
        bench.mix(now.liveSet());
        bench.block(now.liveSet());
        bench.takeOff();
        return bench.clean[0];
    }

    private static void demand(boolean there) throws NoSuchElementException {
        if (!there) {
            throw new NoSuchElementException("there is none such");
        }
    }

    private static boolean isTurnedTime(int t) {
        return within(t, -LAST_TURNED, LAST_TURNED);
    }

    // ---- over the SPAN

    public int level(int m) {
        if (!now.hasMic(m)) {
            return NONE;
        }
        ears.listenTo(EVERY_SOURCE);
        bench.hear(m, now.begin(), now.length());
        int first = 0;
        for (int i = 1; i < now.length(); i++) {
            if (Math.abs(bench.heard[i]) > Math.abs(bench.heard[first])) {
                first = i;
            }
        }
        told.clear();
        told.add(bench.powerOf(bench.heard));
        told.add(Math.abs(bench.heard[first]));
        told.add(now.begin() + first);
        return bench.levelOf(bench.heard);
    }

    public int beams(int b) {
        if (!isDirection(b)) {
            return NONE;
        }
        ears.listenTo(EVERY_SOURCE);
        learnWeights(b);
        bench.takeOff();
        told.clear();
        told.add(bench.powerOf(bench.beam));
        told.add(bench.levelOf(bench.clean));
        told.add(bench.powerOf(bench.clean));
        return bench.levelOf(bench.beam);
    }

    public int weights(int b) {
        if (!isDirection(b)) {
            return NONE;
        }
        ears.listenTo(EVERY_SOURCE);
        learnWeights(b);
        told.clear();
        for (int j = 0; j < bench.weightCount; j++) {
            told.add(bench.weights[j]);
        }
        return bench.weightCount;
    }

    public int loudest(int what) {
        if (!within(what, 0, 1)) {
            return NONE;
        }
        if (now.liveSet() == 0) {
            return NOTHING_TO_TELL;
        }
        ears.listenTo(EVERY_SOURCE);
        int found = 0;
        long most = -1;
        for (int i = 0; i < DIRECTIONS; i++) {
            int b = bySize(i);
            long power = what == 0 ? beamPower(b) : cleanPower(b, now.liveSet());
            if (power > most) {
                most = power;
                found = b;
            }
        }
        told.clear();
        told.add(most);
        return found + FARTHEST;
    }

    public int pattern() {
        if (now.liveSet() == 0) {
            return NOTHING_TO_TELL;
        }
        ears.listenTo(EVERY_SOURCE);
        told.clear();
        int found = -FARTHEST;
        int least = -1;
        for (int b = -FARTHEST; b <= FARTHEST; b++) {
            turnOverSpan(b);
            bench.mix(now.liveSet());
            int loud = bench.levelOf(bench.beam);
            told.add(loud);
            if (least < 0 || loud < least) {
                least = loud;
                found = b;
            }
        }
        return found + FARTHEST;
    }

    public int agree(int one, int other, int b) {
        if (!areTwoMics(one, other) || !isDirection(b)) {
            return NONE;
        }
        ears.listenTo(EVERY_SOURCE);
        turnOverSpan(b);
        int alike = 0;
        for (int i = 0; i < now.length(); i++) {
            if (signOf(bench.turnedRow(one)[i]) == signOf(bench.turnedRow(other)[i])) {
                alike++;
            }
        }
        told.clear();
        told.add(now.length());
        return alike;
    }

    public int from() {
        if (now.liveCount() < 2) {
            return NOTHING_TO_TELL;
        }
        ears.listenTo(EVERY_SOURCE);
        int found = compass.find(now.begin(), now.length(), now.liveSet());
        told.clear();
        told.add(compass.agreement(found));
        told.add(pairsOf(now.liveCount()));
        return found + FARTHEST;
    }

    public int doubtful() {
        if (now.liveCount() < 2) {
            return NOTHING_TO_TELL;
        }
        ears.listenTo(EVERY_SOURCE);
        int most = compass.agreement(compass.find(now.begin(), now.length(), now.liveSet()));
        int many = 0;
        told.clear();
        for (int b = -FARTHEST; b <= FARTHEST; b++) {
            if (compass.agreement(b) == most) {
                told.add(b + FARTHEST);
                many++;
            }
        }
        return many;
    }

    public int tracks(int n) {
        if (!within(n, 1, 12) || now.begin() + (n - 1) * now.length() > LAST_BEGIN) {
            return NONE;
        }
        if (now.liveCount() < 2) {
            return NOTHING_TO_TELL;
        }
        ears.listenTo(EVERY_SOURCE);
        told.clear();
        int others = 0;
        int last = 0;
        for (int i = 0; i < n; i++) {
            int begin = now.begin() + i * now.length();
            int found = compass.find(begin, now.length(), now.liveSet());
            told.add(found + FARTHEST);
            if (i > 0 && found != last) {
                others++;
            }
            last = found;
        }
        return others;
    }

    public int strongest(int m) {
        if (!now.hasMic(m)) {
            return NONE;
        }
        if (now.sourceCount == 0) {
            return NOTHING_TO_TELL;
        }
        int found = 0;
        long most = -1;
        for (int s = 0; s < now.sourceCount; s++) {
            long power = heardPower(m, 1 << s);
            if (power > most) {
                most = power;
                found = s;
            }
        }
        told.clear();
        told.add(most);
        told.add(heardPower(m, EVERY_SOURCE));
        return found;
    }

    private long heardPower(int m, int audible) {
        ears.listenTo(audible);
        bench.hear(m, now.begin(), now.length());
        return bench.powerOf(bench.heard);
    }

    public int faults(int n) {
        if (!within(n, 0, MOST_LONG)) {
            return NONE;
        }
        ears.listenTo(EVERY_SOURCE);
        int quiet = 0;
        int cut = 0;
        int rough = 0;
        for (int m = 0; m < now.micCount; m++) {
            bench.hear(m, now.begin(), now.length());
            quiet |= bench.isQuiet() ? 1 << m : 0;
            cut |= bench.clips() >= n ? 1 << m : 0;
            rough |= bench.turnsOfSign() >= n ? 1 << m : 0;
        }
        told.clear();
        told.add(cut);
        told.add(rough);
        return quiet;
    }

    public int clipped(int m) {
        if (!now.hasMic(m)) {
            return NONE;
        }
        ears.listenTo(EVERY_SOURCE);
        bench.hear(m, now.begin(), now.length());
        told.clear();
        told.add(bench.turnsOfSign());
        told.add(bench.isQuiet() ? 1 : 0);
        return bench.clips();
    }

    // ---- what would be

    public int without(int m, int b) {
        if (!now.isLive(m) || !isDirection(b)) {
            return NONE;
        }
        if (now.liveCount() == 1) {
            return NOTHING_TO_TELL;
        }
        ears.listenTo(EVERY_SOURCE);
        turnOverSpan(b);
        long present = mixedPower(now.liveSet());
        told.clear();
        told.add(present);
        return (int) mixedPower(now.liveSet() & ~(1 << m));
    }

    public int worst(int b) {
        if (!isDirection(b)) {
            return NONE;
        }
        if (now.liveCount() < 2) {
            return NOTHING_TO_TELL;
        }
        ears.listenTo(EVERY_SOURCE);
        int found = NONE;
        long least = 0;
        for (int m = 0; m < now.micCount; m++) {
            if (!now.isLive(m)) {
                continue;
            }
            long power = cleanPower(b, now.liveSet() & ~(1 << m));
            if (found == NONE || power < least) {
                least = power;
                found = m;
            }
        }
        told.clear();
        told.add(least);
        return found;
    }

    public int best(int n, int b) {
        if (!within(n, 1, MOST_MICS) || !isDirection(b)) {
            return NONE;
        }
        if (now.micCount < n) {
            return NOTHING_TO_TELL;
        }
        ears.listenTo(EVERY_SOURCE);
        turnOverSpan(b);
        int found = NONE;
        long least = 0;
        for (int set = 1; set < 1 << now.micCount; set++) {
            if (Integer.bitCount(set) != n) {
                continue;
            }
            long power = mixedPower(set);
            if (found == NONE || power < least) {
                least = power;
                found = set;
            }
        }
        told.clear();
        told.add(least);
        return found;
    }

    public int masks(int b) {
        if (!isDirection(b)) {
            return NONE;
        }
        if (now.sourceCount == 0) {
            return NOTHING_TO_TELL;
        }
        int found = NONE;
        long least = 0;
        for (int s = 0; s < now.sourceCount; s++) {
            ears.listenTo(~(1 << s));
            long power = beamPower(b);
            if (found == NONE || power < least) {
                least = power;
                found = s;
            }
        }
        told.clear();
        told.add(least);
        return found;
    }

    public int nulled(int b, int d) {
        if (!isDirection(b) || !isDirection(d)) {
            return NONE;
        }
        int coming = now.sourcesFrom(d);
        ears.listenTo(coming);
        learnWeights(b);
        ears.listenTo(EVERY_SOURCE);
        turnOverSpan(b);
        bench.mix(now.liveSet());
        bench.block(now.liveSet());
        bench.takeOff();
        told.clear();
        told.add(bench.powerOf(bench.clean));
        told.add(bench.powerOf(bench.beam));
        return Integer.bitCount(coming);
    }

    public int behind(int one, int other) {
        if (!areTwoMics(one, other)) {
            return NONE;
        }
        ears.listenTo(EVERY_SOURCE);
        int found = 0;
        int most = -1;
        for (int i = 0; i < DIRECTIONS; i++) {
            int shift = bySize(i);
            int alike = alikeWhenShifted(one, other, shift);
            if (alike > most) {
                most = alike;
                found = shift;
            }
        }
        told.clear();
        told.add(most);
        return found + FARTHEST;
    }

    private int alikeWhenShifted(int one, int other, int shift) {
        int alike = 0;
        for (int i = 0; i < now.length(); i++) {
            int t = now.begin() + i;
            if (signOf(ears.at(one, t + shift)) == signOf(ears.at(other, t))) {
                alike++;
            }
        }
        return alike;
    }

    public int later(int begin) {
        if (!within(begin, 0, LAST_BEGIN)) {
            return NONE;
        }
        if (now.liveCount() < 2) {
            return NOTHING_TO_TELL;
        }
        ears.listenTo(EVERY_SOURCE);
        int found = compass.find(begin, now.length(), now.liveSet());
        told.clear();
        told.add(compass.agreement(found));
        return found + FARTHEST;
    }

    public int settles(int d) {
        if (!isDirection(d)) {
            return NONE;
        }
        if (now.liveCount() < 2) {
            return NOTHING_TO_TELL;
        }
        ears.listenTo(EVERY_SOURCE);
        int found = compass.leastLong(d, now.begin(), now.liveSet());
        return found == NONE ? NOTHING_TO_TELL : found;
    }

    private void turnOverSpan(int b) {
        bench.turnTo(b, now.begin(), now.length());
    }

    private void learnWeights(int b) {
        turnOverSpan(b);
        bench.mix(now.liveSet());
        bench.block(now.liveSet());
        bench.learn();
    }

    private long beamPower(int b) {
        turnOverSpan(b);
        return mixedPower(now.liveSet());
    }

    private long mixedPower(int set) {
        bench.mix(set);
        return bench.powerOf(bench.beam);
    }

    private long cleanPower(int b, int set) {
        turnOverSpan(b);
        bench.mix(set);
        bench.block(set);
        bench.learn();
        bench.takeOff();
        return bench.powerOf(bench.clean);
    }

    private boolean areTwoMics(int one, int other) {
        return now.hasMic(one) && now.hasMic(other) && one != other;
    }

    // ---- changes

    public int sets(int m, int what, int v) {
        before.copyFrom(now);
        return settleChange(within(what, 0, 4) ? now.put(m, what + GAIN, v) : NONE);
    }

    public int holds(int what, int v) {
        before.copyFrom(now);
        return settleChange(now.hold(what, v));
    }

    public int moves(int m, int place) {
        before.copyFrom(now);
        return settleChange(now.move(m, place));
    }

    public int learns() {
        before.copyFrom(now);
        return settleChange(learnEqual());
    }

    public int sorts(int n) {
        before.copyFrom(now);
        return settleChange(sortOut(n));
    }

    public int aims(int s, int what, int v) {
        before.copyFrom(now);
        return settleChange(now.aim(s, what, v));
    }

    public int goes(int s) {
        before.copyFrom(now);
        return settleChange(now.drop(s));
    }

    public int day() {
        int wrong = reader.faultInDay();
        if (wrong != NONE) {
            text.cutTo(0);
            return -1 - wrong;
        }
        before.copyFrom(now);
        int done = 0;
        boolean stopped = false;
        for (int p = 0; p < text.length && !stopped; p += 1 + Reader.shapeOf(text.at(p)).length()) {
            stopped = act(p) < 0;
            done += stopped ? 0 : 1;
        }
        text.cutTo(0);
        if (done > 0) {
            past.push(before);
        }
        told.clear();
        told.add(stopped ? 1 : 0);
        told.add(now.liveSet());
        return done;
    }

    private int act(int p) {
        int number = text.digit(p + 1);
        switch (text.at(p)) {
            case 'g':
                return now.put(number, GAIN, text.number(p + 2, 3));
            case 'w':
                return now.put(number, WIND, text.digit(p + 2));
            case 'd':
                return now.put(number, DEAD, text.digit(p + 2));
            case 'o':
                return now.put(number, OUT, text.digit(p + 2));
            case 'c':
                return now.hold(CLIP, text.number(p + 1, 4));
            case 'b':
                return now.hold(BEGIN, text.number(p + 1, 3));
            case 'l':
                return learnEqual();
            case 's':
                return sortOut(text.number(p + 1, 2));
            case 'a':
                return now.aim(number, DIRECTION, text.signedDigit(p + 2));
            default:
                return NONE;
        }
    }

    public int undo() {
        return past.pop(now);
    }

    public int years(int seed, int n) {
        if (!within(n, 1, 30)) {
            return NONE;
        }
        before.copyFrom(now);
        dice.start(seed);
        for (int i = 0; i < n; i++) {
            drawnAct();
        }
        int live = now.liveSet();
        ears.listenTo(EVERY_SOURCE);
        turnOverSpan(0);
        bench.mix(live);
        told.clear();
        told.add(bench.levelOf(bench.beam));
        now.copyFrom(before);
        return live;
    }

    private void drawnAct() {
        int kind = dice.draw(3);
        int m = dice.draw(6);
        if (kind == 0) {
            now.put(m, WIND, dice.draw(10));
        } else if (kind == 1) {
            now.put(m, OUT, dice.draw(2));
        } else {
            now.put(m, GAIN, dice.draw(300) + 1);
        }
    }

    private int settleChange(int answer) {
        if (answer < 0) {
            now.copyFrom(before);
        } else {
            past.push(before);
        }
        return answer;
    }

    private int learnEqual() {
        ears.listenTo(EVERY_SOURCE);
        int greatest = NONE;
        for (int m = 0; m < now.micCount; m++) {
            bench.hear(m, now.begin(), now.length());
            if (!bench.isQuiet()) {
                greatest = Math.max(greatest, bench.levelOf(bench.heard));
            }
        }
        if (greatest == NONE) {
            return NOTHING_TO_TELL;
        }
        int others = 0;
        for (int m = 0; m < now.micCount; m++) {
            bench.hear(m, now.begin(), now.length());
            if (!bench.isQuiet() && now.put(m, EQUAL, equalFor(greatest)) >= 0) {
                others++;
            }
        }
        return others;
    }

    private int equalFor(int greatest) {
        int own = bench.levelOf(bench.heard);
        if (own == 0) {
            return MIC_MOST[EQUAL];
        }
        return clamp(100 * greatest / own, MIC_LEAST[EQUAL], MIC_MOST[EQUAL]);
    }

    private int sortOut(int n) {
        if (!within(n, 1, MOST_LONG)) {
            return NONE;
        }
        ears.listenTo(EVERY_SOURCE);
        boolean changed = false;
        for (int m = 0; m < now.micCount; m++) {
            bench.hear(m, now.begin(), now.length());
            boolean bad = bench.isQuiet() || bench.clips() >= n;
            if (now.put(m, OUT, bad ? 1 : 0) >= 0) {
                changed = true;
            }
        }
        return changed ? now.micCount - now.liveCount() : IT_IS_SO;
    }

    // ---- kept

    public boolean keep(int i) {
        if (!within(i, 0, 1)) {
            return false;
        }
        kept[i].copyFrom(now);
        isKept[i] = true;
        return true;
    }

    public boolean again(int i) {
        if (!within(i, 0, 1) || !isKept[i]) {
            return false;
        }
        now.copyFrom(kept[i]);
        past.forget();
        return true;
    }

    public int count(int what) {
        switch (what) {
            case 0:
                return now.micCount;
            case 1:
                return now.sourceCount;
            case 2:
                return now.liveSet();
            case 3:
                return now.held[CLIP];
            case 4:
                return now.begin();
            case 5:
                return now.length();
            case 6:
                return past.many;
            case 7:
                return told.many;
            case 8:
                return text.length;
            default:
                return NONE;
        }
    }

    public long row(int i) throws NoSuchElementException {
        demand(i >= 0 && i < told.many);
        return told.numbers[i];
    }

    // ---- small helps

    private static boolean within(int v, int least, int most) {
        return v >= least && v <= most;
    }

    private static int clamp(int v, int least, int most) {
        return Math.max(least, Math.min(most, v));
    }

    private static boolean isDirection(int b) {
        return within(b, -FARTHEST, FARTHEST);
    }

    private static int signOf(int v) {
        return Integer.compare(v, 0);
    }

    private static int pairsOf(int n) {
        return n * (n - 1) / 2;
    }

    /** 0, 1, -1, 2, -2, ..: of equal ones the first in this order is the one to take. */
    private static int bySize(int i) {
        return i % 2 == 1 ? (i + 1) / 2 : -(i / 2);
    }

    /** All that the document's first term tells of. */
    private static final class Scene {
        int micCount;
        int sourceCount;
        final int[][] micTable = new int[OUT + 1][MOST_MICS];
        final int[][] sourceTable = new int[MOST_SOURCES][SOURCE_PARTS];
        final int[] held = {9999, 0, 16};

        void copyFrom(Scene other) {
            micCount = other.micCount;
            sourceCount = other.sourceCount;
            for (int part = 0; part < micTable.length; part++) {
                System.arraycopy(other.micTable[part], 0, micTable[part], 0, MOST_MICS);
            }
            for (int s = 0; s < MOST_SOURCES; s++) {
                System.arraycopy(other.sourceTable[s], 0, sourceTable[s], 0, SOURCE_PARTS);
            }
            System.arraycopy(other.held, 0, held, 0, held.length);
        }

        boolean hasMic(int m) {
            return m >= 0 && m < micCount;
        }

        boolean hasSource(int s) {
            return s >= 0 && s < sourceCount;
        }

        int ofMic(int m, int part) {
            return hasMic(m) && within(part, PLACE, OUT) ? micTable[part][m] : 0;
        }

        int ofSource(int s, int part) {
            return hasSource(s) && within(part, 0, SOURCE_PARTS - 1) ? sourceTable[s][part] : 0;
        }

        int begin() {
            return held[BEGIN];
        }

        int length() {
            return held[LONG];
        }

        boolean isLive(int m) {
            return hasMic(m) && micTable[OUT][m] == 0;
        }

        int liveSet() {
            int set = 0;
            for (int m = 0; m < micCount; m++) {
                set |= isLive(m) ? 1 << m : 0;
            }
            return set;
        }

        int liveCount() {
            return Integer.bitCount(liveSet());
        }

        int sourcesFrom(int d) {
            int set = 0;
            for (int s = 0; s < sourceCount; s++) {
                set |= sourceTable[s][DIRECTION] == d ? 1 << s : 0;
            }
            return set;
        }

        boolean addMic(int place) {
            if (micCount >= MOST_MICS) {
                return false;
            }
            for (int part = GAIN; part <= OUT; part++) {
                micTable[part][micCount] = MIC_FIRST[part];
            }
            micTable[PLACE][micCount] = place;
            micCount++;
            return true;
        }

        int put(int m, int part, int v) {
            if (!hasMic(m) || !within(part, GAIN, OUT) || !within(v, MIC_LEAST[part], MIC_MOST[part])) {
                return NONE;
            }
            int was = micTable[part][m];
            micTable[part][m] = v;
            return was == v ? IT_IS_SO : was;
        }

        int hold(int what, int v) {
            if (!within(what, CLIP, LONG) || !within(v, HELD_LEAST[what], HELD_MOST[what])) {
                return NONE;
            }
            int was = held[what];
            held[what] = v;
            return was == v ? IT_IS_SO : was;
        }

        int move(int m, int place) {
            if (!hasMic(m) || !within(place, MIC_LEAST[PLACE], MIC_MOST[PLACE])) {
                return NONE;
            }
            int[] places = micTable[PLACE];
            int was = places[m];
            if (was == place) {
                return IT_IS_SO;
            }
            boolean low = m > 0 && place <= places[m - 1];
            boolean high = m + 1 < micCount && place >= places[m + 1];
            if (low || high) {
                return NOT_RISING;
            }
            places[m] = place;
            return was;
        }

        int aim(int s, int what, int v) {
            if (!hasSource(s) || !within(what, DIRECTION, LOUD) || !within(v, AIM_LEAST[what], AIM_MOST[what])) {
                return NONE;
            }
            int was = sourceTable[s][what];
            if (was == v) {
                return IT_IS_SO;
            }
            sourceTable[s][what] = v;
            return what == DIRECTION ? was + FARTHEST : was;
        }

        int drop(int s) {
            if (!hasSource(s)) {
                return NONE;
            }
            for (int i = s; i + 1 < sourceCount; i++) {
                System.arraycopy(sourceTable[i + 1], 0, sourceTable[i], 0, SOURCE_PARTS);
            }
            sourceCount--;
            return sourceCount;
        }
    }

    /** Scenes as they were ahead of the latest changes. */
    private static final class Past {
        private final Scene[] scenes = {
            new Scene(), new Scene(), new Scene(), new Scene(),
            new Scene(), new Scene(), new Scene(), new Scene()};
        int many;

        void push(Scene scene) {
            if (many == scenes.length) {
                dropOldest();
            }
            scenes[many].copyFrom(scene);
            many++;
        }

        private void dropOldest() {
            Scene oldest = scenes[0];
            for (int i = 1; i < scenes.length; i++) {
                scenes[i - 1] = scenes[i];
            }
            scenes[scenes.length - 1] = oldest;
            many--;
        }

        int pop(Scene into) {
            if (many == 0) {
                return NONE;
            }
            many--;
            into.copyFrom(scenes[many]);
            return many;
        }

        void forget() {
            many = 0;
        }
    }

    /** The ROW. */
    private static final class Told {
        final long[] numbers = new long[DIRECTIONS];
        int many;

        void clear() {
            many = 0;
        }

        void add(long number) {
            if (many < numbers.length) {
                numbers[many] = number;
                many++;
            }
        }
    }

    /** THE TEXT. */
    private static final class Letters {
        private final int[] signs = new int[MOST_SIGNS];
        int length;

        int addFour(int v) {
            if (length + 4 > MOST_SIGNS) {
                return NONE;
            }
            for (int shift = 24; shift >= 0; shift -= 8) {
                signs[length] = (v >>> shift) & 255;
                length++;
            }
            return length;
        }

        boolean cutTo(int n) {
            if (n < 0 || n > length) {
                return false;
            }
            length = n;
            return true;
        }

        /** Behind the end there is a sign that can stand nowhere. */
        int at(int p) {
            return p >= 0 && p < length ? signs[p] : NONE;
        }

        int digit(int p) {
            return within(at(p), '0', '9') ? at(p) - '0' : NONE;
        }

        int number(int p, int digits) {
            int value = 0;
            for (int i = 0; i < digits; i++) {
                value = 10 * value + digit(p + i);
            }
            return value;
        }

        boolean isPlusOrMinus(int p) {
            return at(p) == '+' || at(p) == '-';
        }

        int signedDigit(int p) {
            return at(p) == '-' ? -digit(p + 1) : digit(p + 1);
        }
    }

    /** Reads THE TEXT; where it can't go on it answers -1 less the sign's number. */
    private static final class Reader {
        private final Letters text;

        Reader(Letters text) {
            this.text = text;
        }

        int readMics(Scene scene) {
            scene.micCount = 0;
            int last = -1;
            for (int p = 0; p < text.length; p += 3) {
                if (text.digit(p) < 0) {
                    return -1 - p;
                }
                int place = text.number(p, 2);
                if (text.digit(p + 1) < 0 || place > MIC_MOST[PLACE] || place <= last) {
                    return -2 - p;
                }
                scene.addMic(place);
                last = place;
                if (p + 2 == text.length) {
                    return scene.micCount;
                }
                if (text.at(p + 2) != ',' || scene.micCount == MOST_MICS) {
                    return -3 - p;
                }
            }
            return text.length == 0 ? 0 : -1 - text.length;
        }

        int readSources(Scene scene) {
            scene.sourceCount = 0;
            int p = 0;
            for (int s = 0; s < MOST_SOURCES && p < text.length; s++) {
                int steps = readSource(scene.sourceTable[s], p);
                if (steps < 0) {
                    return steps;
                }
                p += FIRST_STEP + steps;
                scene.sourceCount++;
                if (p == text.length) {
                    return scene.sourceCount;
                }
                if (text.at(p) != ';' || scene.sourceCount == MOST_SOURCES) {
                    return -1 - p;
                }
                p++;
            }
            return text.length == 0 ? 0 : -1 - p;
        }

        /** How many steps the SOURCE at p has. */
        private int readSource(int[] parts, int p) {
            if (!text.isPlusOrMinus(p)) {
                return -1 - p;
            }
            if (!within(text.digit(p + 1), 0, FARTHEST)) {
                return -2 - p;
            }
            if (text.digit(p + 2) < 1) {
                return -3 - p;
            }
            parts[DIRECTION] = text.signedDigit(p);
            parts[LOUD] = text.digit(p + 2);
            int steps = 0;
            while (steps < MOST_STEPS && within(text.digit(p + FIRST_STEP + steps), 0, FARTHEST)) {
                parts[FIRST_STEP + steps] = text.digit(p + FIRST_STEP + steps) - 4;
                steps++;
            }
            parts[STEPS] = steps;
            return steps < LEAST_STEPS ? -1 - (p + FIRST_STEP + steps) : steps;
        }

        /** The first sign of A DAY that can't stand where it does; NONE if all can. */
        int faultInDay() {
            int p = 0;
            while (p < text.length) {
                int kind = text.at(p);
                if (!isAct(kind)) {
                    return p;
                }
                String shape = shapeOf(kind);
                p++;
                for (int i = 0; i < shape.length(); i++) {
                    if (!fits(shape.charAt(i), p)) {
                        return p;
                    }
                    p++;
                }
            }
            return NONE;
        }

        private static boolean isAct(int kind) {
            return kind == 'l' || shapeOf(kind).length() > 0;
        }

        /** What stands behind an ACT's first sign: 9 any digit, 8 one up to 8, + a plus or minus. */
        static String shapeOf(int kind) {
            switch (kind) {
                case 'g':
                case 'c':
                    return "9999";
                case 'b':
                    return "999";
                case 'w':
                case 'd':
                case 'o':
                case 's':
                    return "99";
                case 'a':
                    return "9+8";
                default:
                    return "";
            }
        }

        private boolean fits(char form, int p) {
            if (form == '+') {
                return text.isPlusOrMinus(p);
            }
            return within(text.digit(p), 0, form - '0');
        }
    }

    /** SAMPLES; each is reckoned once, when it is first asked for after listenTo(). */
    private static final class Ears {
        private static final int TIMES = 2 * LAST_SAMPLE + 1;
        private final Scene scene;
        private final int[] samples = new int[MOST_MICS * TIMES];
        private final int[] stamps = new int[MOST_MICS * TIMES];
        private int audible;
        private int stamp;

        Ears(Scene scene) {
            this.scene = scene;
        }

        /** Only SOURCES of this set are heard; what was reckoned before is forgotten. */
        void listenTo(int sources) {
            audible = sources;
            stamp++;
        }

        int at(int m, int t) {
            if (!scene.hasMic(m) || !within(t, -LAST_SAMPLE, LAST_SAMPLE)) {
                return 0;
            }
            int place = m * TIMES + LAST_SAMPLE + t;
            if (stamps[place] != stamp) {
                stamps[place] = stamp;
                samples[place] = reckon(m, t);
            }
            return samples[place];
        }

        private int reckon(int m, int t) {
            if (scene.micTable[DEAD][m] != 0) {
                return 0;
            }
            int sum = scene.micTable[WIND][m] * gust(m, t);
            for (int s = 0; s < scene.sourceCount; s++) {
                if ((audible >> s & 1) != 0) {
                    sum += waveAt(scene.sourceTable[s], scene.micTable[PLACE][m], t);
                }
            }
            int clip = scene.held[CLIP];
            return clamp(sum * scene.micTable[GAIN][m] / 100, -clip, clip);
        }

        private static int gust(int m, int t) {
            int s = ((t + 300) * (t + 300) * 7 + (m + 1) * (t + 311) * 13) % 1009;
            return (s % 17 - 8) * 8;
        }

        private static int waveAt(int[] parts, int place, int t) {
            int steps = parts[STEPS];
            if (!within(steps, 1, MOST_STEPS)) {
                return 0;
            }
            int x = 8 * t - place * parts[DIRECTION];
            int f = x & 7;
            int step = Math.floorMod(x >> 3, steps);
            int next = step + 1 < steps ? step + 1 : 0;
            return parts[LOUD] * ((8 - f) * parts[FIRST_STEP + step] + f * parts[FIRST_STEP + next]);
        }
    }

    /** Rows of numbers over a stretch of SAMPLES, made once and filled again and again. */
    private static final class Bench {
        private final Scene scene;
        private final Ears ears;
        private final int[][] turned = new int[MOST_MICS][MOST_LONG];
        final int[] heard = new int[MOST_LONG];
        final int[] beam = new int[MOST_LONG];
        final int[][] blocked = new int[MOST_MICS - 1][MOST_LONG];
        final int[] clean = new int[MOST_LONG];
        final int[] weights = new int[MOST_MICS - 1];
        private final int[] taken = new int[MOST_LONG];
        int weightCount;
        private int length = 1;

        Bench(Scene scene, Ears ears) {
            this.scene = scene;
            this.ears = ears;
        }

        private void setLength(int many) {
            length = clamp(many, 1, MOST_LONG);
        }

        void hear(int m, int begin, int many) {
            setLength(many);
            for (int i = 0; i < length; i++) {
                heard[i] = ears.at(m, begin + i);
            }
        }

        /** All MICS, those that are OUT too: which of them count is said to mix() and block(). */
        void turnTo(int b, int begin, int many) {
            setLength(many);
            for (int m = 0; m < scene.micCount; m++) {
                int x = scene.micTable[PLACE][m] * b;
                int first = begin + (x >> 3);
                int f = x & 7;
                int next = ears.at(m, first);
                for (int i = 0; i < length; i++) {
                    int here = next;
                    next = ears.at(m, first + i + 1);
                    turned[m][i] = ((8 - f) * here + f * next) / 8 * scene.micTable[EQUAL][m] / 100;
                }
            }
        }

        int[] turnedRow(int m) {
            return turned[clamp(m, 0, MOST_MICS - 1)];
        }

        void mix(int set) {
            int many = Integer.bitCount(set);
            for (int i = 0; i < length; i++) {
                int sum = 0;
                for (int m = 0; m < MOST_MICS; m++) {
                    if ((set >> m & 1) != 0) {
                        sum += turned[m][i];
                    }
                }
                beam[i] = many == 0 ? 0 : sum / many;
            }
        }

        void block(int set) {
            weightCount = 0;
            int last = NONE;
            for (int m = 0; m < MOST_MICS; m++) {
                if ((set >> m & 1) == 0) {
                    continue;
                }
                if (last != NONE) {
                    blockBetween(turned[last], turned[m], blocked[weightCount]);
                    weightCount++;
                }
                last = m;
            }
        }

        private void blockBetween(int[] one, int[] next, int[] into) {
            for (int i = 0; i < length; i++) {
                into[i] = one[i] - next[i];
            }
        }

        void learn() {
            Arrays.fill(weights, 0);
            Arrays.fill(taken, 0);
            // A round that changes nothing would be followed by rounds that change nothing.
            boolean changed = true;
            for (int round = 0; round < 3 && changed; round++) {
                changed = false;
                for (int j = 0; j < weightCount; j++) {
                    int was = weights[j];
                    addToTaken(j, -was);
                    weights[j] = bestWeight(j, was);
                    addToTaken(j, weights[j]);
                    changed = changed || weights[j] != was;
                }
            }
        }

        private void addToTaken(int j, int weight) {
            for (int i = 0; i < length; i++) {
                taken[i] += weight * blocked[j][i];
            }
        }

        /**
         * POWERS are compared, not squares, so the limit is always a POWER times how many there are: squares
         * together below it are those of a lesser POWER. The weight that there was gives the first limit, as
         * no weight of more POWER than it can be chosen.
         */
        private int bestWeight(int j, int was) {
            long limit = (squares(j, was, NO_LIMIT) / length + 1) * length;
            int found = was;
            for (int i = 0; i < WEIGHT_CHOICES; i++) {
                int weight = bySize(i);
                long sum = squares(j, weight, limit);
                if (sum < limit) {
                    limit = sum / length * length;
                    found = weight;
                }
            }
            return found;
        }

        private long squares(int j, int weight, long limit) {
            long sum = 0;
            for (int i = 0; i < length && sum < limit; i++) {
                long left = beam[i] - (taken[i] + weight * blocked[j][i]) / 16;
                sum += left * left;
            }
            return sum;
        }

        /** CLEAN by the weights learnt last. */
        void takeOff() {
            for (int i = 0; i < length; i++) {
                int sum = 0;
                for (int j = 0; j < weightCount; j++) {
                    sum += weights[j] * blocked[j][i];
                }
                clean[i] = beam[i] - sum / 16;
            }
        }

        long powerOf(int[] numbers) {
            long sum = 0;
            for (int i = 0; i < length && i < numbers.length; i++) {
                sum += (long) numbers[i] * numbers[i];
            }
            return sum / length;
        }

        int levelOf(int[] numbers) {
            int sum = 0;
            for (int i = 0; i < length && i < numbers.length; i++) {
                sum += Math.abs(numbers[i]);
            }
            return sum / length;
        }

        boolean isQuiet() {
            for (int i = 0; i < length; i++) {
                if (heard[i] != 0) {
                    return false;
                }
            }
            return true;
        }

        int clips() {
            int many = 0;
            for (int i = 0; i < length; i++) {
                if (Math.abs(heard[i]) == scene.held[CLIP]) {
                    many++;
                }
            }
            return many;
        }

        int turnsOfSign() {
            int many = 0;
            for (int i = 1; i < length; i++) {
                if (signOf(heard[i - 1]) != signOf(heard[i])) {
                    many++;
                }
            }
            return many;
        }

        /** How many pairs out of a set have TURNED of the same sign. */
        int pairsAlike(int set, int i) {
            int above = 0;
            int below = 0;
            int none = 0;
            for (int m = 0; m < MOST_MICS; m++) {
                if ((set >> m & 1) == 0) {
                    continue;
                }
                int side = signOf(turned[m][i]);
                above += side > 0 ? 1 : 0;
                below += side < 0 ? 1 : 0;
                none += side == 0 ? 1 : 0;
            }
            return pairsOf(above) + pairsOf(below) + pairsOf(none);
        }
    }

    /** AGREE over all pairs, by directions. */
    private static final class Compass {
        private final Bench bench;
        private final int[][] alike = new int[DIRECTIONS][MOST_LONG];
        private final int[] totals = new int[DIRECTIONS];

        Compass(Bench bench) {
            this.bench = bench;
        }

        int agreement(int b) {
            return isDirection(b) ? totals[b + FARTHEST] : 0;
        }

        /** FROM over a SPAN. */
        int find(int begin, int many, int set) {
            int length = clamp(many, 1, MOST_LONG);
            measure(begin, length, set);
            for (int i = 0; i < length; i++) {
                addToTotals(i);
            }
            return direction();
        }

        /** NONE, if FROM never stays d for long enough. */
        int leastLong(int d, int begin, int set) {
            measure(begin, MOST_LONG, set);
            int first = NONE;
            for (int length = 1; length <= MOST_LONG; length++) {
                addToTotals(length - 1);
                if (length < LEAST_LONG || direction() != d) {
                    first = NONE;
                } else if (first == NONE) {
                    first = length;
                } else if (length == first + 4) {
                    return first;
                }
            }
            return first;
        }

        private void measure(int begin, int length, int set) {
            Arrays.fill(totals, 0);
            for (int b = -FARTHEST; b <= FARTHEST; b++) {
                bench.turnTo(b, begin, length);
                for (int i = 0; i < length; i++) {
                    alike[b + FARTHEST][i] = bench.pairsAlike(set, i);
                }
            }
        }

        private void addToTotals(int i) {
            for (int d = 0; d < DIRECTIONS; d++) {
                totals[d] += alike[d][i];
            }
        }

        private int direction() {
            int found = 0;
            for (int i = 1; i < DIRECTIONS; i++) {
                if (agreement(bySize(i)) > agreement(found)) {
                    found = bySize(i);
                }
            }
            return found;
        }
    }

    /** DRAWS. */
    private static final class Dice {
        private int r;

        void start(int seed) {
            r = seed;
        }

        int draw(int n) {
            r = r * 1103515245 + 12345;
            return n < 1 ? 0 : (r >>> 16) % n;
        }
    }
}
