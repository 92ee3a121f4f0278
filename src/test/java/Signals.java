/** What tests share: words, objects that have heard what a test wants, and all that can be seen of one. */
abstract class Signals {
    static final int BAD = MinuteSignal.BAD;
    static final int STATE = MinuteSignal.STATE;
    static final int FULL = MinuteSignal.FULL;
    static final int NONE = MinuteSignal.NONE;
    static final int NO = MinuteSignal.NO;
    static final int MIN = Integer.MIN_VALUE;
    static final int MAX = Integer.MAX_VALUE;
    /** All 19 bits of a frame. */
    static final int ALL = 524287;
    static final int GAP = 0;
    static final int ZERO = 10;
    static final int ONE = 20;
    static final int UNCLEAR = 15;

    /** A new object that has heard n zeros. */
    static MinuteSignal zeros(int n) {
        MinuteSignal x = new MinuteSignal();
        hear(x, ZERO, n);
        return x;
    }

    static void hear(MinuteSignal x, int length, int n) {
        for (int i = 0; i < n; i++) {
            x.hears(length);
        }
    }

    /** Hears n clear frames, the first one at the TIME, all of them in one hour. */
    static void hearFrames(MinuteSignal x, int n, int minute, int summer, int shift, int leap) {
        for (int i = 0; i < n; i++) {
            x.frames(x.bits(minute + i, summer, shift, leap), 0);
        }
    }

    /** A new object that has heard n clear frames, the first one at the TIME, all of them in one hour. */
    static MinuteSignal frames(int n, int minute, int summer, int shift, int leap) {
        MinuteSignal x = new MinuteSignal();
        hearFrames(x, n, minute, summer, shift, leap);
        return x;
    }

    /** A new object whose clock is set to the TIME, whatever that is, by one frame; NEED is 1. */
    static MinuteSignal clockAt(int minute, int summer, int shift, int leap) {
        MinuteSignal x = frames(1, minute, summer, shift, leap);
        x.needs(1);
        Due.is("sets() at " + minute + " " + summer + " " + shift + " " + leap, x.sets(), minute);
        return x;
    }

    /** The NEXT one of a TIME {minute, summer, shift, leap}, hour by hour, so that nothing needs to go round. */
    static int[] nextOf(int[] time) {
        int hour = time[0] / 60;
        if (time[0] % 60 < 59) {
            return new int[] {time[0] + 1, time[1], time[2], time[3]};
        }
        if (time[2] == 0) {
            return new int[] {60 * (hour < 23 ? hour + 1 : 0), time[1], 0, 0};
        }
        if (time[1] == 0) {
            return new int[] {60 * (hour < 22 ? hour + 2 : hour - 22), 1, 0, 0};
        }
        return new int[] {60 * hour, 0, 0, 0};
    }

    static void isTime(String of, MinuteSignal x, int minute, int summer, int shift, int leap) {
        int[] due = {minute, summer, shift, leap};
        for (int what = 0; what < 4; what++) {
            Due.is("clock(" + what + ") " + of, x.clock(what), due[what]);
        }
    }

    /** All that can be seen by calls that change nothing: 205 calls at most. */
    static String seen(MinuteSignal x) {
        StringBuilder all = new StringBuilder();
        for (int what = 0; what <= 6; what++) {
            all.append("count ").append(what).append('=').append(x.count(what)).append(' ');
        }
        int size = x.count(0);
        for (int k = 0; k < size; k++) {
            all.append(x.symbol(k));
        }
        for (int what = 0; what <= 10; what++) {
            all.append(" vote ").append(what).append('=').append(x.vote(what));
        }
        int frames = x.count(2);
        for (int frame = 0; frame < frames; frame++) {
            for (int what = 0; what <= 8; what++) {
                all.append(" read ").append(frame).append(' ').append(what).append('=').append(x.read(frame, what));
            }
        }
        for (int what = 0; what <= 7; what++) {
            all.append(" clock ").append(what).append('=').append(x.clock(what));
        }
        all.append(" close 9=").append(x.close(9, -1)).append(" close 30=").append(x.close(30, -1));
        return all.append(" misses=").append(x.misses(777, 1, 0, 1)).toString();
    }
}
