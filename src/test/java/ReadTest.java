/** Promise 11 (read). */
final class ReadTest {
    public static void main(String[] args) {
        clearFrame();
        everyMinute();
        everyFigure();
        unclearSymbols();
        gapsInFrames();
        parities();
        firstSymbols();
        wrongBits();
        wrongThroughAChange();
        refused();
        Due.end();
    }

    private static void clearFrame() {
        MinuteSignal x = new MinuteSignal();
        x.frames(x.bits(13 * 60 + 47, 1, 0, 1), 0);
        int[] due = {0, 1, 1, 47, 13, 0, 1, 1, 0};
        for (int what = 0; what < due.length; what++) {
            Due.is("read(0, " + what + ") of 13:47", x.read(0, what), due[what]);
        }
    }

    private static void everyMinute() {
        for (int minute = 0; minute < 1440; minute++) {
            MinuteSignal x = new MinuteSignal();
            x.frames(x.bits(minute, 0, 0, 0), 0);
            Due.is("minutes of " + minute, x.read(0, 3), minute % 60);
            Due.is("hour of " + minute, x.read(0, 4), minute / 60);
            Due.is("PARITY of the minutes of " + minute, x.read(0, 1), 1);
            Due.is("PARITY of the hour of " + minute, x.read(0, 2), 1);
        }
    }

    private static void everyFigure() {
        for (int first = 0; first < 8; first++) {
            for (int last = 0; last < 16; last++) {
                MinuteSignal x = new MinuteSignal();
                x.frames(last << 4 | first << 8, 0);
                int due = last > 9 || first > 5 ? MinuteSignal.NONE : 10 * first + last;
                Due.is("minutes by figures " + first + ", " + last, x.read(0, 3), due);
                Due.is("hour beside them", x.read(0, 4), 0);
            }
        }
        for (int first = 0; first < 4; first++) {
            for (int last = 0; last < 16; last++) {
                MinuteSignal x = new MinuteSignal();
                x.frames(last << 12 | first << 16, 0);
                boolean isHour = last <= 9 && 10 * first + last <= 23;
                Due.is("hour by figures " + first + ", " + last, x.read(0, 4),
                        isHour ? 10 * first + last : MinuteSignal.NONE);
                Due.is("minutes beside them", x.read(0, 3), 0);
            }
        }
    }

    private static void unclearSymbols() {
        for (int i = 0; i < 19; i++) {
            MinuteSignal x = new MinuteSignal();
            x.frames(0, 1 << i);
            checkOneHidden(x, i, 2);
        }
    }

    private static void gapsInFrames() {
        for (int i = 0; i < 19; i++) {
            MinuteSignal x = new MinuteSignal();
            x.frames(0, 0);
            for (int k = 0; k < 20; k++) {
                x.hears(k == i || k == 19 ? 0 : 10);
            }
            x.loses(20);
            x.frames(0, 0);
            Due.is("PHASE with a gap too many at " + i, x.count(1), 19);
            checkOneHidden(x, i, 3);
        }
    }

    private static void checkOneHidden(MinuteSignal x, int hidden, int symbol) {
        String at = " with symbol " + hidden + " a " + symbol;
        Due.is("PARITY of the minutes" + at, x.read(0, 1), hidden >= 4 && hidden <= 11 ? 2 : 1);
        Due.is("PARITY of the hour" + at, x.read(0, 2), hidden >= 12 ? 2 : 1);
        Due.is("minutes" + at, x.read(0, 3), hidden >= 4 && hidden <= 10 ? MinuteSignal.NONE : 0);
        Due.is("hour" + at, x.read(0, 4), hidden >= 12 && hidden <= 17 ? MinuteSignal.NONE : 0);
        Due.is("SHIFT" + at, x.read(0, 5), hidden == 1 ? symbol : 0);
        Due.is("LEAP" + at, x.read(0, 6), hidden == 2 ? symbol : 0);
        Due.is("SUMMER" + at, x.read(0, 7), hidden == 3 ? symbol : 0);
        Due.is("WRONG" + at, x.read(0, 8), 0);
    }

    private static void parities() {
        for (int i = 0; i < 19; i++) {
            MinuteSignal x = new MinuteSignal();
            x.frames(1 << i, 0);
            Due.is("PARITY of the minutes with a ONE at " + i, x.read(0, 1), i >= 4 && i <= 11 ? 0 : 1);
            Due.is("PARITY of the hour with a ONE at " + i, x.read(0, 2), i >= 12 ? 0 : 1);
        }
        MinuteSignal x = new MinuteSignal();
        x.frames(1 << 4 | 1 << 11 | 1 << 12 | 1 << 18, 0);
        Due.is("PARITY of the minutes with 4, 11", x.read(0, 1), 1);
        Due.is("PARITY of the hour with 12, 18", x.read(0, 2), 1);
    }

    private static void firstSymbols() {
        for (int before = 0; before < 20; before++) {
            MinuteSignal x = new MinuteSignal();
            for (int i = 1; i < before; i++) {
                x.hears(10);
            }
            if (before > 0) {
                x.hears(0);
            }
            x.frames(2, 0);
            x.frames(4, 0);
            Due.is("first symbol behind " + before, x.read(0, 0), before);
            Due.is("first symbol of the second", x.read(1, 0), before + 20);
            Due.is("SHIFT of the first", x.read(0, 5), 1);
            Due.is("LEAP of the second", x.read(1, 6), 1);
            Due.is("no third one", x.read(2, 0), MinuteSignal.BAD);
        }
    }

    private static void wrongBits() {
        MinuteSignal x = new MinuteSignal();
        int noise = 1 | 1 << 6 | 1 << 18;
        for (int i = 0; i < 5; i++) {
            int bits = x.bits(700 + i, 1, 0, 0);
            x.frames(i == 2 ? bits ^ noise : bits, i == 2 ? 1 << 6 : 0);
        }
        Due.is("VOTE", x.vote(0), 700);
        Due.is("WRONG of a clear frame", x.read(1, 8), 0);
        Due.is("WRONG less what is unclear", x.read(2, 8), 1 | 1 << 18);
        Due.is("MISSES", x.vote(4), 2);
    }

    private static void wrongThroughAChange() {
        MinuteSignal x = new MinuteSignal();
        int[] minutes = {117, 118, 119, 180, 181, 182};
        for (int i = 0; i < 6; i++) {
            int bits = i < 3 ? x.bits(minutes[i], 0, 1, 1) : x.bits(minutes[i], 1, 0, 0);
            x.frames(i == 4 ? bits ^ 1 << 3 : bits, 0);
        }
        Due.is("MINUTE through a change", x.vote(0), 117);
        for (int i = 0; i < 6; i++) {
            Due.is("WRONG of frame " + i, x.read(i, 8), i == 4 ? 8 : 0);
        }
    }

    private static void refused() {
        MinuteSignal x = new MinuteSignal();
        Due.is("read(0, 0) of none", x.read(0, 0), MinuteSignal.BAD);
        x.frames(0, 0);
        Due.is("read(0, -1)", x.read(0, -1), MinuteSignal.BAD);
        Due.is("read(0, 9)", x.read(0, 9), MinuteSignal.BAD);
        Due.is("read(-1, 0)", x.read(-1, 0), MinuteSignal.BAD);
        Due.is("read(1, 0)", x.read(1, 0), MinuteSignal.BAD);
        Due.is("read(MAX, 8)", x.read(Integer.MAX_VALUE, 8), MinuteSignal.BAD);
        Due.is("read(MIN, 5)", x.read(Integer.MIN_VALUE, 5), MinuteSignal.BAD);
        Due.is("read(0, MAX)", x.read(0, Integer.MAX_VALUE), MinuteSignal.BAD);
    }
}
