/** The bounds that the document names of READ and of WRONG, on both sides. */
final class ReadEdgesTest extends Signals {
    public static void main(String[] args) {
        frameNumbers();
        whatNumbers();
        firstNumbers();
        evenAndOdd();
        parityOfHidden();
        figuresOfHidden();
        noSuchMinute();
        noSuchHour();
        noSuchFigure();
        signSymbols();
        wrongOfEachBit();
        wrongOfAllBits();
        wrongByTheVote();
        Due.end();
    }

    private static void frameNumbers() {
        Due.says("READ of a FRAME. BAD: there is no such thing");
        Due.is("read(0, 0) of an empty row", new MinuteSignal().read(0, 0), BAD);
        Due.is("read(0, 8) of an empty row", new MinuteSignal().read(0, 8), BAD);
        for (int n = 1; n <= 6; n++) {
            MinuteSignal x = frames(n, 600, 0, 0, 0);
            Due.is("read(-1, 3) of " + n, x.read(-1, 3), BAD);
            Due.is("read(0, 3) of " + n, x.read(0, 3), 0);
            Due.is("read(" + (n - 1) + ", 3) of " + n, x.read(n - 1, 3), n - 1);
            Due.is("read(" + n + ", 3) of " + n, x.read(n, 3), BAD);
            Due.is("read(MIN, 3)", x.read(MIN, 3), BAD);
            Due.is("read(MAX, 3)", x.read(MAX, 3), BAD);
        }
        MinuteSignal x = frames(2, 600, 0, 0, 0);
        hear(x, ZERO, 18);
        Due.is("read(2, 4) where 18 of it are heard", x.read(2, 4), BAD);
        x.hears(ZERO);
        Due.is("read(2, 4) where all of it is heard", x.read(2, 4), 0);
    }

    private static void whatNumbers() {
        Due.says("READ: 0 its first SYMBOL's number, .., 8 WRONG (bits). BAD");
        MinuteSignal x = frames(1, 1439, 1, 0, 1);
        x.frames(x.bits(0, 1, 0, 0) ^ 3, 0);
        int[] due = {0, 1, 1, 59, 23, 0, 1, 1, 0};
        int[] dueOfNext = {20, 1, 1, 0, 0, 1, 0, 1, 3};
        for (int what = 0; what <= 8; what++) {
            Due.is("read(0, " + what + ")", x.read(0, what), due[what]);
            Due.is("read(1, " + what + ")", x.read(1, what), dueOfNext[what]);
        }
        for (int what : new int[] {-1, 9, MIN, MAX}) {
            for (int frame = 0; frame <= 2; frame++) {
                Due.is("read(" + frame + ", " + what + ")", x.read(frame, what), BAD);
            }
        }
    }

    private static void firstNumbers() {
        Due.says("from PHASE and 1 on (PHASE 19: from 0 on), from there and 20 on");
        for (int phase = 0; phase < 20; phase++) {
            MinuteSignal x = zeros(phase);
            x.hears(GAP);
            hear(x, ONE, 99 - phase);
            Due.is("read(0, 0) by PHASE " + phase, x.read(0, 0), phase == 19 ? 0 : phase + 1);
            Due.is("read(3, 0) by PHASE " + phase, x.read(3, 0), phase == 19 ? 60 : phase + 61);
        }
    }

    private static void evenAndOdd() {
        Due.says("its PARITIES (1 even, 0 odd)");
        for (int i = 0; i < 19; i++) {
            MinuteSignal x = new MinuteSignal();
            x.frames(1 << i, 0);
            x.frames(ALL ^ 1 << i, 0);
            boolean ofMinutes = i >= 4 && i <= 11;
            boolean ofHour = i >= 12;
            Due.is("minutes by ONE " + i, x.read(0, 1), ofMinutes ? 0 : 1);
            Due.is("hour by ONE " + i, x.read(0, 2), ofHour ? 0 : 1);
            // eight symbols of the minutes are even, seven of the hour odd
            Due.is("minutes by ZERO " + i, x.read(1, 1), ofMinutes ? 0 : 1);
            Due.is("hour by ZERO " + i, x.read(1, 2), ofHour ? 1 : 0);
        }
    }

    /** Two frames of zeros behind one whose symbol i is heard by the length, so that PHASE stays 19. */
    private static MinuteSignal hidden(int i, int length) {
        MinuteSignal x = new MinuteSignal();
        for (int k = 0; k < 19; k++) {
            x.hears(k == i ? length : ZERO);
        }
        x.hears(GAP);
        x.frames(0, 0);
        x.frames(0, 0);
        Due.is("PHASE", x.count(1), 19);
        return x;
    }

    private static void parityOfHidden() {
        Due.says("2 if one of its SYMBOLS is no ZERO, ONE");
        for (int length : new int[] {GAP, UNCLEAR}) {
            for (int i = 0; i < 19; i++) {
                MinuteSignal x = hidden(i, length);
                Due.is("minutes, number " + i + " by length " + length, x.read(0, 1), i >= 4 && i <= 11 ? 2 : 1);
                Due.is("hour, number " + i + " by length " + length, x.read(0, 2), i >= 12 ? 2 : 1);
            }
        }
        MinuteSignal x = new MinuteSignal();
        x.frames(1 << 4 | 1 << 12, 1 << 5 | 1 << 13);
        Due.is("minutes that are odd, and one is unclear", x.read(0, 1), 2);
        Due.is("hour that is odd, and one is unclear", x.read(0, 2), 2);
    }

    private static void figuresOfHidden() {
        Due.says("NONE, if a SYMBOL of them is no ZERO, ONE");
        for (int length : new int[] {GAP, UNCLEAR}) {
            for (int i = 0; i < 19; i++) {
                MinuteSignal x = hidden(i, length);
                Due.is("minutes, number " + i + " by length " + length, x.read(0, 3), i >= 4 && i <= 10 ? NONE : 0);
                Due.is("hour, number " + i + " by length " + length, x.read(0, 4), i >= 12 && i <= 17 ? NONE : 0);
            }
        }
    }

    private static int minutesBy(int first, int last) {
        MinuteSignal x = new MinuteSignal();
        x.frames(first << 8 | last << 4, 0);
        return x.read(0, 3);
    }

    private static int hourBy(int first, int last) {
        MinuteSignal x = new MinuteSignal();
        x.frames(first << 16 | last << 12, 0);
        return x.read(0, 4);
    }

    private static void noSuchMinute() {
        Due.says("NONE, if there is no such minute");
        Due.is("minutes 0, 0", minutesBy(0, 0), 0);
        Due.is("minutes 5, 9", minutesBy(5, 9), 59);
        Due.is("minutes 6, 0", minutesBy(6, 0), NONE);
        Due.is("minutes 7, 9", minutesBy(7, 9), NONE);
    }

    private static void noSuchHour() {
        Due.says("NONE, if there is no such hour");
        Due.is("hour 0, 0", hourBy(0, 0), 0);
        Due.is("hour 1, 9", hourBy(1, 9), 19);
        Due.is("hour 2, 3", hourBy(2, 3), 23);
        Due.is("hour 2, 4", hourBy(2, 4), NONE);
        Due.is("hour 2, 9", hourBy(2, 9), NONE);
        Due.is("hour 3, 0", hourBy(3, 0), NONE);
        Due.is("hour 3, 9", hourBy(3, 9), NONE);
    }

    /** As NOTES.md tells how "by its figures" was read. */
    private static void noSuchFigure() {
        Due.says("the minutes of the hour, the hour by its figures");
        Due.is("minutes 0, 9", minutesBy(0, 9), 9);
        Due.is("minutes 0, 10", minutesBy(0, 10), NONE);
        Due.is("minutes 4, 15", minutesBy(4, 15), NONE);
        Due.is("minutes 5, 10", minutesBy(5, 10), NONE);
        Due.is("hour 0, 9", hourBy(0, 9), 9);
        Due.is("hour 0, 10", hourBy(0, 10), NONE);
        Due.is("hour 1, 13", hourBy(1, 13), NONE);
        Due.is("hour 1, 15", hourBy(1, 15), NONE);
    }

    private static void signSymbols() {
        Due.says("5 SHIFT, 6 LEAP, 7 SUMMER (SYMBOLS, 0 to 3)");
        int[] lengths = {ZERO, ONE, UNCLEAR, GAP};
        for (int symbol = 0; symbol <= 3; symbol++) {
            for (int i = 0; i <= 4; i++) {
                MinuteSignal x = hidden(i, lengths[symbol]);
                Due.is("SHIFT, number " + i + " is " + symbol, x.read(0, 5), i == 1 ? symbol : 0);
                Due.is("LEAP, number " + i + " is " + symbol, x.read(0, 6), i == 2 ? symbol : 0);
                Due.is("SUMMER, number " + i + " is " + symbol, x.read(0, 7), i == 3 ? symbol : 0);
            }
        }
    }

    private static void wrongOfEachBit() {
        Due.says("WRONG: ZEROS and ONES of a FRAME that are not the BITS by the VOTE (numbers 0 to 18, bits)");
        for (int i = 0; i < 19; i++) {
            MinuteSignal x = frames(4, 1370, 1, 0, 0);
            int bits = x.bits(1374, 1, 0, 0);
            x.frames(bits ^ 1 << i, 0);
            x.frames(x.bits(1375, 1, 0, 0) ^ 1 << i, 1 << i);
            Due.is("VOTE", x.vote(0), 1370);
            Due.is("WRONG where none is", x.read(3, 8), 0);
            Due.is("WRONG where number " + i + " is", x.read(4, 8), 1 << i);
            Due.is("WRONG where number " + i + " is unclear", x.read(5, 8), 0);
        }
    }

    private static void wrongOfAllBits() {
        Due.says("WRONG: (numbers 0 to 18, bits)");
        MinuteSignal x = frames(5, 1370, 1, 0, 0);
        x.frames(ALL ^ x.bits(1375, 1, 0, 0), 0);
        Due.is("VOTE", x.vote(0), 1370);
        Due.is("WRONG where all are", x.read(5, 8), ALL);
    }

    private static void wrongByTheVote() {
        Due.says("WRONG: not the BITS by the VOTE");
        MinuteSignal x = new MinuteSignal();
        int[] time = {1438, 0, 1, 1};
        for (int frame = 0; frame < 6; frame++) {
            x.frames(x.bits(time[0], time[1], time[2], time[3]) ^ (frame == 3 ? 2 : 0), 0);
            time = nextOf(time);
        }
        for (int frame = 0; frame < 6; frame++) {
            Due.is("WRONG of FRAME " + frame + " through a shift over midnight", x.read(frame, 8), frame == 3 ? 2 : 0);
        }
        MinuteSignal y = new MinuteSignal();
        y.frames(0, ALL ^ 4);
        y.frames(4, ALL ^ 4);
        Due.is("MARGIN of a VOTE that is not SHOWN", y.vote(5), 0);
        Due.is("WRONG by it of FRAME 0", y.read(0, 8), 0);
        Due.is("WRONG by it of FRAME 1", y.read(1, 8), 4);
    }
}
