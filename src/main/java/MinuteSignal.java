/**
 * Minute signals by radio: pulses become a row of symbols, the row is cut into frames,
 * all frames vote together for a time, and a clock is set by that vote and goes on by itself.
 *
 * <p>A TIME is held as one number, 8 * minute + 4 * summer + 2 * shift + leap, so that the order
 * the document tells of the vote is the order of these numbers.
 */
public final class MinuteSignal {
    public static final int BAD = -1, STATE = -2, FULL = -3, NONE = -9;
    public static final int NO = -1000000;

    private static final int ZERO = 0, ONE = 1, UNCLEAR = 2, GAP = 3;
    private static final int LONGEST_PULSE = 30;

    private static final int ROW_LIMIT = 120;
    private static final int FRAME_LENGTH = 19;
    private static final int FRAME_STEP = 20;
    private static final int FRAME_LIMIT = ROW_LIMIT / FRAME_STEP;

    private static final int FRAME_MASK = (1 << FRAME_LENGTH) - 1;
    private static final int MINUTE_MASK = 0xFF << 4;
    private static final int MINUTE_FIGURES = 0x7F << 4;
    private static final int HOUR_MASK = 0x7F << 12;
    private static final int HOUR_FIGURES = 0x3F << 12;

    private static final int HOUR = 60;
    private static final int HOURS = 24;
    private static final int DAY = HOUR * HOURS;
    private static final int SIGNS = 8;
    private static final int TIMES = DAY * SIGNS;

    private static final int NEED_AT_FIRST = 3, NEED_LIMIT = 9;
    private static final int DRIFT_AT_FIRST = 5, DRIFT_LIMIT = 50;
    private static final int LONGEST_GOING = 999;
    private static final int AGE_LIMIT = 9999;
    private static final int OLD_ABOVE = 500;
    private static final int NO_CLOCK = -1;
    private static final int CLOSE_LIMIT = 120;
    private static final int UNDO_LIMIT = 10;
    private static final int IMAGES = 2;

    private final Held now = new Held();
    private final History history = new History();
    private final Held[] images = new Held[IMAGES];
    private final boolean[] imageKept = new boolean[IMAGES];
    private final Frames framesNow = new Frames();
    private final Vote voteNow = new Vote();
    private boolean framesFit;
    private boolean voteFits;

    public MinuteSignal() {
        for (int i = 0; i < IMAGES; i++) {
            images[i] = new Held();
        }
    }

    // ---- what is heard

    public int hears(int length) {
        if (length < 0 || length > LONGEST_PULSE) {
            return BAD;
        }
        if (now.size >= ROW_LIMIT) {
            return FULL;
        }
        history.remember(now);
        now.append(symbolOfLength(length));
        rowChanged();
        return now.size;
    }

    public int frames(int bits, int unclear) {
        if (bits < 0 || bits > FRAME_MASK || unclear < 0 || unclear > FRAME_MASK) {
            return BAD;
        }
        if (now.size + FRAME_STEP > ROW_LIMIT) {
            return FULL;
        }
        history.remember(now);
        for (int i = 0; i < FRAME_LENGTH; i++) {
            boolean isUnclear = (unclear >> i & 1) == 1;
            now.append(isUnclear ? UNCLEAR : bits >> i & 1);
        }
        now.append(GAP);
        rowChanged();
        return now.size;
    }

    public int loses(int n) {
        if (n < 1 || n > now.size) {
            return BAD;
        }
        history.remember(now);
        now.dropFirst(n);
        rowChanged();
        return now.size;
    }

    public int needs(int need) {
        if (need < 1 || need > NEED_LIMIT) {
            return BAD;
        }
        history.remember(now);
        int before = now.need;
        now.need = need;
        return before;
    }

    public int drifts(int drift) {
        if (drift < 0 || drift > DRIFT_LIMIT) {
            return BAD;
        }
        history.remember(now);
        int before = now.drift;
        now.drift = drift;
        return before;
    }

    public int sets() {
        if (!isShown()) {
            return STATE;
        }
        history.remember(now);
        now.clock = fittingVote().last;
        now.age = 0;
        return Times.minuteOf(now.clock);
    }

    public int goes(int n) {
        if (n < 1 || n > LONGEST_GOING) {
            return BAD;
        }
        if (now.clock == NO_CLOCK) {
            return STATE;
        }
        history.remember(now);
        now.clock = Times.later(now.clock, n);
        now.age = Math.min(now.age + n, AGE_LIMIT);
        return Times.minuteOf(now.clock);
    }

    public int undo() {
        if (history.size == 0) {
            return STATE;
        }
        history.recall(now);
        rowChanged();
        return history.size;
    }

    // ---- frames

    public int symbol(int k) {
        return k < 0 || k >= now.size ? BAD : now.symbols[k];
    }

    public int read(int frame, int what) {
        Frames cut = fittingFrames();
        if (frame < 0 || frame >= cut.count || what < 0 || what > 8) {
            return BAD;
        }
        switch (what) {
            case 0:
                return cut.firstOf(frame);
            case 1:
                return cut.parity(frame, MINUTE_MASK);
            case 2:
                return cut.parity(frame, HOUR_MASK);
            case 3:
                return cut.minuteOfHour(frame);
            case 4:
                return cut.hour(frame);
            case 8:
                return cut.wrong(frame, Times.later(fittingVote().best, frame));
            default:
                // SHIFT, LEAP, SUMMER are the frame's symbols 1, 2, 3
                return symbol(cut.firstOf(frame) + what - 4);
        }
    }

    // ---- the vote

    public int vote(int what) {
        if (what < 0 || what > 10) {
            return BAD;
        }
        if (fittingFrames().count == 0) {
            return NONE;
        }
        Vote taken = fittingVote();
        switch (what) {
            case 4:
                return taken.fewest;
            case 5:
                return taken.margin;
            case 6:
                return isShown() ? 1 : 0;
            default:
                return what < 4 ? Times.partOf(taken.best, what) : Times.partOf(taken.last, what - 7);
        }
    }

    public int misses(int minute, int summer, int shift, int leap) {
        if (!Times.isTime(minute, summer, shift, leap)) {
            return BAD;
        }
        return fittingFrames().missesFrom(Times.of(minute, summer, shift, leap));
    }

    public int close(int w, int k) {
        if (w < 0 || w > CLOSE_LIMIT || k < -1) {
            return BAD;
        }
        Vote taken = fittingVote();
        return k == -1 ? taken.closeCount(w) : taken.closeTime(w, k);
    }

    public int bits(int minute, int summer, int shift, int leap) {
        if (!Times.isTime(minute, summer, shift, leap)) {
            return BAD;
        }
        return Times.bitsOf(Times.of(minute, summer, shift, leap));
    }

    // ---- the clock

    public int clock(int what) {
        if (what < 0 || what > 7 || now.clock == NO_CLOCK) {
            return NO;
        }
        switch (what) {
            case 4:
                return now.age;
            case 5:
                return drifted();
            case 6:
                return drifted() > OLD_ABOVE ? 1 : 0;
            case 7:
                return apart();
            default:
                return Times.partOf(now.clock, what);
        }
    }

    // ---- images

    public int keep(int image) {
        if (image < 0 || image >= IMAGES) {
            return BAD;
        }
        images[image].copyFrom(now);
        imageKept[image] = true;
        return now.size;
    }

    public int back(int image) {
        if (image < 0 || image >= IMAGES) {
            return BAD;
        }
        if (!imageKept[image]) {
            return STATE;
        }
        now.copyFrom(images[image]);
        history.forget();
        rowChanged();
        return now.size;
    }

    public int count(int what) {
        switch (what) {
            case 0:
                return now.size;
            case 1:
                return fittingFrames().phase;
            case 2:
                return fittingFrames().count;
            case 3:
                return now.need;
            case 4:
                return now.drift;
            case 5:
                return now.clock == NO_CLOCK ? 0 : 1;
            case 6:
                return history.size;
            default:
                return BAD;
        }
    }

    private static int symbolOfLength(int length) {
        if (length == 0) {
            return GAP;
        }
        if (length >= 8 && length <= 12) {
            return ZERO;
        }
        return length >= 18 && length <= 22 ? ONE : UNCLEAR;
    }

    // The frames and the vote are made only when they are asked for: most calls need neither.

    private void rowChanged() {
        framesFit = false;
        voteFits = false;
    }

    private Frames fittingFrames() {
        if (!framesFit) {
            framesNow.cut(now);
            framesFit = true;
        }
        return framesNow;
    }

    private Vote fittingVote() {
        if (!voteFits) {
            voteNow.take(fittingFrames());
            voteFits = true;
        }
        return voteNow;
    }

    private boolean isShown() {
        return fittingFrames().count > 0 && fittingVote().margin >= now.need;
    }

    private int drifted() {
        return now.drift * now.age;
    }

    private int apart() {
        if (fittingFrames().count == 0) {
            return NO;
        }
        int difference = Times.minuteOf(now.clock) - Times.minuteOf(fittingVote().last);
        int ahead = Math.floorMod(difference, DAY);
        return ahead > DAY / 2 ? ahead - DAY : ahead;
    }

    /** All that an image keeps and that can be undone. */
    private static final class Held {
        final byte[] symbols = new byte[ROW_LIMIT];
        int size;
        int need = NEED_AT_FIRST;
        int drift = DRIFT_AT_FIRST;
        int clock = NO_CLOCK;
        int age;

        void append(int symbol) {
            if (size < ROW_LIMIT) {
                symbols[size] = (byte) symbol;
                size++;
            }
        }

        void dropFirst(int n) {
            if (n < 0 || n > size) {
                return;
            }
            for (int i = n; i < size; i++) {
                symbols[i - n] = symbols[i];
            }
            size -= n;
        }

        void copyFrom(Held other) {
            for (int i = 0; i < other.size; i++) {
                symbols[i] = other.symbols[i];
            }
            size = other.size;
            need = other.need;
            drift = other.drift;
            clock = other.clock;
            age = other.age;
        }
    }

    /** The states before the latest changes, in a ring that is made once. */
    private static final class History {
        final Held[] states = new Held[UNDO_LIMIT];
        int next;
        int size;

        History() {
            for (int i = 0; i < UNDO_LIMIT; i++) {
                states[i] = new Held();
            }
        }

        void remember(Held state) {
            states[next].copyFrom(state);
            next = (next + 1) % UNDO_LIMIT;
            size = Math.min(size + 1, UNDO_LIMIT);
        }

        void recall(Held state) {
            if (size == 0) {
                return;
            }
            next = (next + UNDO_LIMIT - 1) % UNDO_LIMIT;
            size--;
            state.copyFrom(states[next]);
        }

        void forget() {
            size = 0;
        }
    }

    /** What a TIME is, which one is next, and the bits that tell it. */
    private static final class Times {
        static boolean isTime(int minute, int summer, int shift, int leap) {
            return minute >= 0 && minute < DAY && isSign(summer) && isSign(shift) && isSign(leap);
        }

        static boolean isSign(int sign) {
            return sign == 0 || sign == 1;
        }

        static int of(int minute, int summer, int shift, int leap) {
            return SIGNS * minute + 4 * summer + 2 * shift + leap;
        }

        static int minuteOf(int time) {
            return time / SIGNS;
        }

        static int summerOf(int time) {
            return time >> 2 & 1;
        }

        static int shiftOf(int time) {
            return time >> 1 & 1;
        }

        static int leapOf(int time) {
            return time & 1;
        }

        static int partOf(int time, int part) {
            switch (part) {
                case 0:
                    return minuteOf(time);
                case 1:
                    return summerOf(time);
                case 2:
                    return shiftOf(time);
                default:
                    return leapOf(time);
            }
        }

        static int next(int time) {
            int minute = (minuteOf(time) + 1) % DAY;
            if (minute % HOUR != 0) {
                return SIGNS * minute + time % SIGNS;
            }
            int summer = summerOf(time);
            if (shiftOf(time) == 1) {
                summer = 1 - summer;
                minute = (minute + (summer == 1 ? HOUR : DAY - HOUR)) % DAY;
            }
            return of(minute, summer, 0, 0);
        }

        static int later(int time, int minutes) {
            int reached = time;
            for (int i = 0; i < minutes; i++) {
                reached = next(reached);
            }
            return reached;
        }

        static int bitsOf(int time) {
            int minute = minuteOf(time) % HOUR;
            int hour = minuteOf(time) / HOUR;
            int signs = shiftOf(time) << 1 | leapOf(time) << 2 | summerOf(time) << 3;
            int minuteFigures = minute % 10 << 4 | minute / 10 << 8;
            int hourFigures = hour % 10 << 12 | hour / 10 << 16;
            int minuteParity = Integer.bitCount(minuteFigures) % 2 << 11;
            int hourParity = Integer.bitCount(hourFigures) % 2 << 18;
            return signs | minuteFigures | minuteParity | hourFigures | hourParity;
        }
    }

    /** Where the minutes begin in the row, and the symbols of each whole frame as bits. */
    private static final class Frames {
        final int[] gaps = new int[FRAME_STEP];
        final int[] ones = new int[FRAME_LIMIT];
        final int[] clear = new int[FRAME_LIMIT];
        int phase;
        int count;

        void cut(Held held) {
            findPhase(held);
            int first = firstOf(0);
            count = 0;
            while (count < FRAME_LIMIT && first + FRAME_LENGTH <= held.size) {
                takeFrame(held, first);
                count++;
                first += FRAME_STEP;
            }
        }

        void findPhase(Held held) {
            for (int i = 0; i < FRAME_STEP; i++) {
                gaps[i] = 0;
            }
            for (int k = 0; k < held.size; k++) {
                if (held.symbols[k] == GAP) {
                    gaps[k % FRAME_STEP]++;
                }
            }
            phase = 0;
            for (int i = 1; i < FRAME_STEP; i++) {
                if (gaps[i] > gaps[phase]) {
                    phase = i;
                }
            }
        }

        void takeFrame(Held held, int first) {
            int oneBits = 0;
            int clearBits = 0;
            for (int i = 0; i < FRAME_LENGTH; i++) {
                int symbol = held.symbols[first + i];
                if (symbol == ONE) {
                    oneBits |= 1 << i;
                }
                if (symbol == ONE || symbol == ZERO) {
                    clearBits |= 1 << i;
                }
            }
            ones[count] = oneBits;
            clear[count] = clearBits;
        }

        int firstOf(int frame) {
            return (phase + 1) % FRAME_STEP + FRAME_STEP * frame;
        }

        boolean allClear(int frame, int mask) {
            return (clear[frame] & mask) == mask;
        }

        int parity(int frame, int mask) {
            if (!allClear(frame, mask)) {
                return 2;
            }
            return Integer.bitCount(ones[frame] & mask) % 2 == 0 ? 1 : 0;
        }

        int minuteOfHour(int frame) {
            if (!allClear(frame, MINUTE_FIGURES)) {
                return NONE;
            }
            return byFigures(ones[frame] >> 8 & 7, ones[frame] >> 4 & 15, HOUR);
        }

        int hour(int frame) {
            if (!allClear(frame, HOUR_FIGURES)) {
                return NONE;
            }
            return byFigures(ones[frame] >> 16 & 3, ones[frame] >> 12 & 15, HOURS);
        }

        // A last figure above 9 is no figure, even where the sum would be small enough.
        static int byFigures(int firstFigure, int lastFigure, int limit) {
            int number = 10 * firstFigure + lastFigure;
            return lastFigure > 9 || number >= limit ? NONE : number;
        }

        int wrong(int frame, int time) {
            return (Times.bitsOf(time) ^ ones[frame]) & clear[frame];
        }

        int missesOf(int frame, int bits, int mask) {
            return Integer.bitCount((bits ^ ones[frame]) & clear[frame] & mask);
        }

        int missesFrom(int time) {
            int reached = time;
            int sum = 0;
            for (int frame = 0; frame < count; frame++) {
                sum += missesOf(frame, Times.bitsOf(reached), FRAME_MASK);
                reached = Times.next(reached);
            }
            return sum;
        }
    }

    /**
     * The misses of every TIME, and the TIME that has the fewest.
     *
     * <p>The minute of the hour goes round by itself, and there are fewer frames than an hour has
     * minutes, so the hour and the signs change once at most. The misses of a TIME are thus the sum
     * of a part by its minute and a part by its hour and signs: far fewer parts to count, and to
     * keep in an object, than there are TIMES.
     */
    private static final class Vote {
        static final int HOUR_SIGNS = HOURS * SIGNS;
        static final int MINUTES_LEFT_OUT = FRAME_MASK & ~MINUTE_MASK;
        static final int MORE_THAN_ANY = FRAME_LIMIT * FRAME_LENGTH + 1;

        final int[] byMinute = new int[HOUR];
        /** At [n][hour and signs]: outside of the minutes, if n frames come before the full hour. */
        final int[][] byHour = new int[FRAME_LIMIT + 1][HOUR_SIGNS];
        int count;
        int best;
        int fewest;
        int margin;
        /** The TIME that the vote gives the last frame. */
        int last;

        void take(Frames frames) {
            count = frames.count;
            countByMinute(frames);
            countByHour(frames);
            choose();
            last = Times.later(best, count - 1);
        }

        void countByMinute(Frames frames) {
            for (int minute = 0; minute < HOUR; minute++) {
                int sum = 0;
                for (int frame = 0; frame < count; frame++) {
                    int bits = Times.bitsOf(SIGNS * ((minute + frame) % HOUR));
                    sum += frames.missesOf(frame, bits, MINUTE_MASK);
                }
                byMinute[minute] = sum;
            }
        }

        void countByHour(Frames frames) {
            for (int hourSigns = 0; hourSigns < HOUR_SIGNS; hourSigns++) {
                int bits = Times.bitsOf(timeAt(hourSigns, 0));
                int bitsAfter = Times.bitsOf(Times.next(timeAt(hourSigns, HOUR - 1)));
                int sum = 0;
                for (int frame = 0; frame < count; frame++) {
                    sum += frames.missesOf(frame, bitsAfter, MINUTES_LEFT_OUT);
                }
                byHour[0][hourSigns] = sum;
                for (int frame = 0; frame < count; frame++) {
                    sum += frames.missesOf(frame, bits, MINUTES_LEFT_OUT);
                    sum -= frames.missesOf(frame, bitsAfter, MINUTES_LEFT_OUT);
                    byHour[frame + 1][hourSigns] = sum;
                }
            }
        }

        static int timeAt(int hourSigns, int minute) {
            return SIGNS * (HOUR * (hourSigns / SIGNS) + minute) + hourSigns % SIGNS;
        }

        int missesAt(int time) {
            int minute = Times.minuteOf(time) % HOUR;
            int hourSigns = time / (SIGNS * HOUR) * SIGNS + time % SIGNS;
            return byMinute[minute] + byHour[Math.min(count, HOUR - minute)][hourSigns];
        }

        void choose() {
            best = 0;
            fewest = missesAt(0);
            int second = MORE_THAN_ANY;
            for (int time = 1; time < TIMES; time++) {
                int here = missesAt(time);
                if (here < fewest) {
                    second = fewest;
                    fewest = here;
                    best = time;
                } else if (here < second) {
                    second = here;
                }
            }
            margin = second - fewest;
        }

        int closeCount(int w) {
            int found = 0;
            for (int time = 0; time < TIMES; time++) {
                if (missesAt(time) <= w) {
                    found++;
                }
            }
            return found;
        }

        int closeTime(int w, int k) {
            int found = 0;
            for (int time = 0; time < TIMES; time++) {
                if (missesAt(time) <= w) {
                    if (found == k) {
                        return time;
                    }
                    found++;
                }
            }
            return NONE;
        }
    }
}
