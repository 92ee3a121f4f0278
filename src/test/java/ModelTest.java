import java.util.ArrayDeque;
import java.util.ArrayList;
import java.util.Arrays;
import java.util.Deque;
import java.util.List;
import java.util.Random;

/** Random runs of calls, each answer held against a model that follows the document word by word. */
final class ModelTest {
    private static final int RUNS = 160;
    /** An object is used for 512 calls at most; 127 of them look at the end of a run. */
    private static final int CALLS = 385;
    private static final String[] NAMES = {"hears", "frames", "loses", "needs", "drifts", "sets", "goes", "undo",
        "symbol", "read", "vote", "misses", "close", "bits", "clock", "keep", "back", "count"};
    /** How often each call is made, in the order of the names. */
    private static final int[] OFTEN = {10, 16, 6, 4, 2, 5, 6, 6, 3, 14, 14, 6, 8, 2, 10, 1, 1, 6};

    public static void main(String[] args) {
        for (int run = 0; run < RUNS; run++) {
            oneRun(run);
        }
        Due.end();
    }

    private static void oneRun(int run) {
        Random random = new Random(run);
        MinuteSignal x = new MinuteSignal();
        Model model = new Model();
        Sender sender = new Sender(random);
        for (int i = 0; i < CALLS; i++) {
            int call = pick(random);
            int[] a = arguments(random, call, model, sender);
            String told = "run " + run + ", call " + i + ": " + NAMES[call] + Arrays.toString(a);
            Due.is(told, answer(x, call, a), model.answer(call, a));
        }
        for (int what = 0; what <= 6; what++) {
            Due.is("run " + run + ": count " + what, x.count(what), model.answer(17, new int[] {what}));
        }
        for (int k = 0; k < model.held.row.size(); k++) {
            Due.is("run " + run + ": symbol " + k, x.symbol(k), model.held.row.get(k));
        }
    }

    private static int pick(Random random) {
        int sum = 0;
        for (int often : OFTEN) {
            sum += often;
        }
        int at = random.nextInt(sum);
        int call = 0;
        while (at >= OFTEN[call]) {
            at -= OFTEN[call];
            call++;
        }
        return call;
    }

    /** Mostly what is as told, at times a little beside it. */
    private static int near(Random random, int low, int high) {
        if (random.nextInt(12) == 0) {
            return random.nextBoolean() ? low - 1 - random.nextInt(2) : high + 1 + random.nextInt(2);
        }
        return low + random.nextInt(Math.max(1, high - low + 1));
    }

    private static int[] arguments(Random random, int call, Model model, Sender sender) {
        switch (call) {
            case 0:
                return new int[] {random.nextInt(4) == 0 ? 0 : near(random, 0, 30)};
            case 1:
                return sender.frame();
            case 2:
                return new int[] {near(random, 1, random.nextBoolean() ? 20 : model.held.row.size())};
            case 3:
                return new int[] {near(random, 1, random.nextBoolean() ? 3 : 9)};
            case 4:
                return new int[] {near(random, 0, 50)};
            case 5: case 7:
                return new int[0];
            case 6:
                return new int[] {near(random, 1, random.nextBoolean() ? 70 : 999)};
            case 8:
                return new int[] {near(random, 0, model.held.row.size() - 1)};
            case 9:
                return new int[] {near(random, 0, model.starts().size() - 1), near(random, 0, 8)};
            case 10:
                return new int[] {near(random, 0, 10)};
            case 11: case 13:
                return new int[] {near(random, 0, 1439), sign(random), sign(random), sign(random)};
            case 12:
                return new int[] {near(random, 0, random.nextInt(10) == 0 ? 120 : 20), near(random, -1, 6)};
            case 14:
                return new int[] {near(random, 0, 7)};
            case 15: case 16:
                return new int[] {near(random, 0, 1)};
            default:
                return new int[] {near(random, 0, 6)};
        }
    }

    private static int sign(Random random) {
        return random.nextInt(40) == 0 ? 2 - 3 * random.nextInt(2) : random.nextInt(2);
    }

    private static int answer(MinuteSignal x, int call, int[] a) {
        switch (call) {
            case 0: return x.hears(a[0]);
            case 1: return x.frames(a[0], a[1]);
            case 2: return x.loses(a[0]);
            case 3: return x.needs(a[0]);
            case 4: return x.drifts(a[0]);
            case 5: return x.sets();
            case 6: return x.goes(a[0]);
            case 7: return x.undo();
            case 8: return x.symbol(a[0]);
            case 9: return x.read(a[0], a[1]);
            case 10: return x.vote(a[0]);
            case 11: return x.misses(a[0], a[1], a[2], a[3]);
            case 12: return x.close(a[0], a[1]);
            case 13: return x.bits(a[0], a[1], a[2], a[3]);
            case 14: return x.clock(a[0]);
            case 15: return x.keep(a[0]);
            case 16: return x.back(a[0]);
            default: return x.count(a[0]);
        }
    }

    /** Sends frames minute by minute, often around full hours, now and then with noise. */
    private static final class Sender {
        private final Random random;
        private Time time = new Time(0, 0, 0, 0);

        Sender(Random random) {
            this.random = random;
        }

        int[] frame() {
            if (random.nextInt(12) == 0) {
                int minute = random.nextBoolean() ? 60 * random.nextInt(24) + 56 : random.nextInt(1440);
                time = new Time(minute, random.nextInt(2), random.nextInt(2), random.nextInt(2));
            }
            int bits = number(time.bits());
            time = time.next();
            int unclear = 0;
            int noise = random.nextInt(6) == 0 ? random.nextInt(4) : 0;
            for (int i = 0; i < noise; i++) {
                bits ^= 1 << random.nextInt(19);
                unclear |= 1 << random.nextInt(19);
            }
            if (random.nextInt(30) == 0) {
                bits = near(random, 0, 524287);
                unclear = near(random, 0, random.nextBoolean() ? 0 : 524287);
            }
            return new int[] {bits, unclear};
        }
    }

    private static int number(int[] bits) {
        int sum = 0;
        for (int i = 0; i < bits.length; i++) {
            sum += bits[i] << i;
        }
        return sum;
    }

    private record Time(int minute, int summer, int shift, int leap) {
        boolean exists() {
            return minute >= 0 && minute <= 1439 && summer >= 0 && summer <= 1 && shift >= 0 && shift <= 1
                && leap >= 0 && leap <= 1;
        }

        Time next() {
            int m = minute == 1439 ? 0 : minute + 1;
            if (m % 60 != 0) {
                return new Time(m, summer, shift, leap);
            }
            if (shift == 0) {
                return new Time(m, summer, 0, 0);
            }
            return summer == 0 ? new Time((m + 60) % 1440, 1, 0, 0) : new Time((m + 1380) % 1440, 0, 0, 0);
        }

        Time after(int n) {
            Time t = this;
            for (int i = 0; i < n; i++) {
                t = t.next();
            }
            return t;
        }

        int[] bits() {
            int[] b = new int[19];
            b[1] = shift;
            b[2] = leap;
            b[3] = summer;
            put(b, 4, 4, minute % 60 % 10);
            put(b, 8, 3, minute % 60 / 10);
            b[11] = (b[4] + b[5] + b[6] + b[7] + b[8] + b[9] + b[10]) % 2;
            put(b, 12, 4, minute / 60 % 10);
            put(b, 16, 2, minute / 60 / 10);
            b[18] = (b[12] + b[13] + b[14] + b[15] + b[16] + b[17]) % 2;
            return b;
        }

        private static void put(int[] b, int from, int n, int figure) {
            for (int i = 0; i < n; i++) {
                b[from + i] = figure / (1 << i) % 2;
            }
        }

        int part(int what) {
            return new int[] {minute, summer, shift, leap}[what];
        }

        int code() {
            return 8 * minute + 4 * summer + 2 * shift + leap;
        }
    }

    private static final class Held {
        List<Integer> row = new ArrayList<>();
        int need = 3;
        int drift = 5;
        Time clock = null;
        int age = 0;

        Held copy() {
            Held other = new Held();
            other.row = new ArrayList<>(row);
            other.need = need;
            other.drift = drift;
            other.clock = clock;
            other.age = age;
            return other;
        }
    }

    private static final class Model {
        private static final int BAD = -1;
        private static final int STATE = -2;
        private static final int FULL = -3;
        private static final int NONE = -9;
        private static final int NO = -1000000;
        private static final Time[] ALL = new Time[11520];
        private static final int[][] ALL_BITS = new int[11520][];
        private static final int[] ALL_NEXT = new int[11520];

        static {
            for (int i = 0; i < 11520; i++) {
                ALL[i] = new Time(i / 8, i / 4 % 2, i / 2 % 2, i % 2);
                ALL_BITS[i] = ALL[i].bits();
                ALL_NEXT[i] = ALL[i].next().code();
            }
        }

        Held held = new Held();
        private final Deque<Held> past = new ArrayDeque<>();
        private final Held[] images = new Held[2];
        private List<Integer> countedRow = null;
        private int[] counted = null;

        int answer(int call, int[] a) {
            switch (call) {
                case 0: return hear(a[0]);
                case 1: return hearFrame(a[0], a[1]);
                case 2: return lose(a[0]);
                case 3: return need(a[0]);
                case 4: return drift(a[0]);
                case 5: return set();
                case 6: return go(a[0]);
                case 7: return undone();
                case 8: return a[0] < 0 || a[0] >= held.row.size() ? BAD : held.row.get(a[0]);
                case 9: return reading(a[0], a[1]);
                case 10: return voting(a[0]);
                case 11: case 13: return ofTime(call, new Time(a[0], a[1], a[2], a[3]));
                case 12: return closest(a[0], a[1]);
                case 14: return clock(a[0]);
                case 15: return kept(a[0]);
                case 16: return taken(a[0]);
                default: return counts(a[0]);
            }
        }

        private void change() {
            past.addLast(held.copy());
            if (past.size() > 10) {
                past.removeFirst();
            }
        }

        private int hear(int length) {
            if (length < 0 || length > 30) {
                return BAD;
            }
            if (held.row.size() == 120) {
                return FULL;
            }
            change();
            boolean isZero = length >= 8 && length <= 12;
            boolean isOne = length >= 18 && length <= 22;
            held.row.add(length == 0 ? 3 : isZero ? 0 : isOne ? 1 : 2);
            return held.row.size();
        }

        private int hearFrame(int bits, int unclear) {
            if (bits < 0 || bits >= 524288 || unclear < 0 || unclear >= 524288) {
                return BAD;
            }
            if (held.row.size() > 100) {
                return FULL;
            }
            change();
            for (int i = 0; i < 19; i++) {
                held.row.add(unclear / (1 << i) % 2 == 1 ? 2 : bits / (1 << i) % 2);
            }
            held.row.add(3);
            return held.row.size();
        }

        private int lose(int n) {
            if (n < 1 || n > held.row.size()) {
                return BAD;
            }
            change();
            held.row = new ArrayList<>(held.row.subList(n, held.row.size()));
            return held.row.size();
        }

        private int need(int need) {
            if (need < 1 || need > 9) {
                return BAD;
            }
            change();
            int was = held.need;
            held.need = need;
            return was;
        }

        private int drift(int drift) {
            if (drift < 0 || drift > 50) {
                return BAD;
            }
            change();
            int was = held.drift;
            held.drift = drift;
            return was;
        }

        private int set() {
            if (starts().isEmpty() || margin() < held.need) {
                return STATE;
            }
            change();
            held.clock = last();
            held.age = 0;
            return held.clock.minute();
        }

        private int go(int n) {
            if (n < 1 || n > 999) {
                return BAD;
            }
            if (held.clock == null) {
                return STATE;
            }
            change();
            held.clock = held.clock.after(n);
            held.age = Math.min(9999, held.age + n);
            return held.clock.minute();
        }

        private int undone() {
            if (past.isEmpty()) {
                return STATE;
            }
            held = past.removeLast();
            return past.size();
        }

        private int phase() {
            int phase = 0;
            int most = -1;
            for (int p = 0; p < 20; p++) {
                int gaps = 0;
                for (int k = p; k < held.row.size(); k += 20) {
                    gaps += held.row.get(k) == 3 ? 1 : 0;
                }
                if (gaps > most) {
                    most = gaps;
                    phase = p;
                }
            }
            return phase;
        }

        List<Integer> starts() {
            List<Integer> starts = new ArrayList<>();
            for (int k = phase() == 19 ? 0 : phase() + 1; k + 19 <= held.row.size(); k += 20) {
                starts.add(k);
            }
            return starts;
        }

        private int wrongOf(int start, int time) {
            int wrong = 0;
            for (int i = 0; i < 19; i++) {
                int symbol = held.row.get(start + i);
                if (symbol < 2 && symbol != ALL_BITS[time][i]) {
                    wrong |= 1 << i;
                }
            }
            return wrong;
        }

        private int missesOf(int time, List<Integer> starts) {
            int sum = 0;
            int at = time;
            for (int start : starts) {
                sum += Integer.bitCount(wrongOf(start, at));
                at = ALL_NEXT[at];
            }
            return sum;
        }

        private int[] all() {
            if (!held.row.equals(countedRow)) {
                countedRow = new ArrayList<>(held.row);
                List<Integer> starts = starts();
                counted = new int[11520];
                for (int t = 0; t < 11520; t++) {
                    counted[t] = missesOf(t, starts);
                }
            }
            return counted;
        }

        private int best() {
            int best = 0;
            for (int t = 0; t < 11520; t++) {
                best = all()[t] < all()[best] ? t : best;
            }
            return best;
        }

        private int margin() {
            int best = best();
            int fewest = Integer.MAX_VALUE;
            for (int t = 0; t < 11520; t++) {
                fewest = t == best ? fewest : Math.min(fewest, all()[t]);
            }
            return fewest - all()[best];
        }

        private Time last() {
            return ALL[best()].after(starts().size() - 1);
        }

        private int reading(int frame, int what) {
            if (frame < 0 || frame >= starts().size() || what < 0 || what > 8) {
                return BAD;
            }
            int start = starts().get(frame);
            List<Integer> s = held.row.subList(start, start + 19);
            switch (what) {
                case 0: return start;
                case 1: return parity(s.subList(4, 12));
                case 2: return parity(s.subList(12, 19));
                case 3: return figures(s.subList(4, 8), s.subList(8, 11), 59);
                case 4: return figures(s.subList(12, 16), s.subList(16, 18), 23);
                case 5: return s.get(1);
                case 6: return s.get(2);
                case 7: return s.get(3);
                default: return wrongOf(start, ALL[best()].after(frame).code());
            }
        }

        private static int parity(List<Integer> symbols) {
            if (symbols.contains(2) || symbols.contains(3)) {
                return 2;
            }
            int sum = 0;
            for (int symbol : symbols) {
                sum += symbol;
            }
            return sum % 2 == 0 ? 1 : 0;
        }

        private static int figures(List<Integer> last, List<Integer> first, int most) {
            int one = figure(last);
            int ten = figure(first);
            if (one < 0 || ten < 0 || 10 * ten + one > most) {
                return NONE;
            }
            return 10 * ten + one;
        }

        /** The figure, or -1 if there is none. */
        private static int figure(List<Integer> symbols) {
            int sum = 0;
            for (int i = 0; i < symbols.size(); i++) {
                if (symbols.get(i) > 1) {
                    return -1;
                }
                sum += symbols.get(i) << i;
            }
            return sum > 9 ? -1 : sum;
        }

        private int voting(int what) {
            if (what < 0 || what > 10) {
                return BAD;
            }
            if (starts().isEmpty()) {
                return NONE;
            }
            switch (what) {
                case 4: return all()[best()];
                case 5: return margin();
                case 6: return margin() >= held.need ? 1 : 0;
                case 7: case 8: case 9: case 10: return last().part(what - 7);
                default: return ALL[best()].part(what);
            }
        }

        private int ofTime(int call, Time time) {
            if (!time.exists()) {
                return BAD;
            }
            return call == 11 ? missesOf(time.code(), starts()) : number(time.bits());
        }

        private int closest(int w, int k) {
            if (w < 0 || w > 120 || k < -1) {
                return BAD;
            }
            List<Integer> close = new ArrayList<>();
            for (int t = 0; t < 11520; t++) {
                if (all()[t] <= w) {
                    close.add(t);
                }
            }
            if (k == -1) {
                return close.size();
            }
            return k < close.size() ? close.get(k) : NONE;
        }

        private int clock(int what) {
            if (what < 0 || what > 7 || held.clock == null || what == 7 && starts().isEmpty()) {
                return NO;
            }
            switch (what) {
                case 4: return held.age;
                case 5: return held.drift * held.age;
                case 6: return held.drift * held.age > 500 ? 1 : 0;
                case 7: return apart(held.clock.minute(), last().minute());
                default: return held.clock.part(what);
            }
        }

        private static int apart(int clock, int vote) {
            for (int ahead = -719; ahead <= 720; ahead++) {
                if ((vote + ahead + 1440) % 1440 == clock) {
                    return ahead;
                }
            }
            return NO;
        }

        private int kept(int image) {
            if (image < 0 || image > 1) {
                return BAD;
            }
            images[image] = held.copy();
            return held.row.size();
        }

        private int taken(int image) {
            if (image < 0 || image > 1) {
                return BAD;
            }
            if (images[image] == null) {
                return STATE;
            }
            held = images[image].copy();
            past.clear();
            return held.row.size();
        }

        private int counts(int what) {
            if (what < 0 || what > 6) {
                return BAD;
            }
            int clock = held.clock == null ? 0 : 1;
            return new int[] {held.row.size(), phase(), starts().size(), held.need, held.drift, clock,
                past.size()}[what];
        }
    }
}
