import java.util.HashSet;
import java.util.Set;

/** The bounds that the document names of a TIME, of its BITS, and what goes round in NEXT. */
final class TimeEdgesTest extends Signals {
    public static void main(String[] args) {
        minuteBounds();
        signBounds();
        bitsOfEveryTime();
        bitsByHand();
        nextMinute();
        nextIsFullHour();
        nextShiftsForward();
        nextShiftsBack();
        nextOfEveryHour();
        framesAcrossTheHour();
        Due.end();
    }

    private static void minuteBounds() {
        Due.says("A TIME: MINUTE of the day (0 .. 1439)");
        MinuteSignal x = new MinuteSignal();
        for (int minute : new int[] {-1, 1440, MIN, MAX}) {
            Due.is("bits(" + minute + ", 0, 0, 0)", x.bits(minute, 0, 0, 0), BAD);
            Due.is("misses(" + minute + ", 0, 0, 0)", x.misses(minute, 0, 0, 0), BAD);
        }
        Due.is("bits(0, 0, 0, 0)", x.bits(0, 0, 0, 0), 0);
        Due.is("misses(0, 0, 0, 0)", x.misses(0, 0, 0, 0), 0);
        Due.isTrue("bits(1439, 0, 0, 0)", x.bits(1439, 0, 0, 0) > 0);
        Due.is("misses(1439, 0, 0, 0)", x.misses(1439, 0, 0, 0), 0);
    }

    private static void signBounds() {
        Due.says("SUMMER (0, 1), SHIFT, LEAP (0, 1: announced)");
        MinuteSignal x = new MinuteSignal();
        for (int sign : new int[] {-1, 2, MIN, MAX}) {
            Due.is("bits(0, " + sign + ", 0, 0)", x.bits(0, sign, 0, 0), BAD);
            Due.is("bits(0, 0, " + sign + ", 0)", x.bits(0, 0, sign, 0), BAD);
            Due.is("bits(0, 0, 0, " + sign + ")", x.bits(0, 0, 0, sign), BAD);
            Due.is("misses(0, " + sign + ", 0, 0)", x.misses(0, sign, 0, 0), BAD);
            Due.is("misses(0, 0, " + sign + ", 0)", x.misses(0, 0, sign, 0), BAD);
            Due.is("misses(0, 0, 0, " + sign + ")", x.misses(0, 0, 0, sign), BAD);
        }
        Due.is("bits(0, 1, 0, 0)", x.bits(0, 1, 0, 0), 8);
        Due.is("bits(0, 0, 1, 0)", x.bits(0, 0, 1, 0), 2);
        Due.is("bits(0, 0, 0, 1)", x.bits(0, 0, 0, 1), 4);
        Due.is("misses(0, 1, 1, 1)", x.misses(0, 1, 1, 1), 0);
    }

    /** The figure as so many bits, the lowest first. */
    private static String lowestFirst(int figure, int places) {
        StringBuilder bits = new StringBuilder();
        for (int i = 0; i < places; i++) {
            bits.append(figure >> i & 1);
        }
        return bits.toString();
    }

    private static int toBeEven(String bits) {
        int ones = 0;
        for (char bit : bits.toCharArray()) {
            ones += bit - '0';
        }
        return ones % 2;
    }

    private static int written(int hour, int minute, int summer, int shift, int leap) {
        String minutes = lowestFirst(minute % 10, 4) + lowestFirst(minute / 10, 3);
        String hours = lowestFirst(hour % 10, 4) + lowestFirst(hour / 10, 2);
        String frame = "0" + shift + leap + summer + minutes + toBeEven(minutes) + hours + toBeEven(hours);
        return Integer.parseInt(new StringBuilder(frame).reverse().toString(), 2);
    }

    private static void bitsOfEveryTime() {
        Due.says("The BITS of its FRAME: 0: 0. 1 SHIFT. 2 LEAP. 3 SUMMER. 4 to 7 ..; 8 to 10 ..; 11 .. 18");
        Set<Integer> all = new HashSet<>();
        for (int hour = 0; hour < 24; hour++) {
            MinuteSignal x = new MinuteSignal();
            for (int i = 0; i < 480; i++) {
                int minute = i / 8;
                int bits = x.bits(60 * hour + minute, i >> 2 & 1, i >> 1 & 1, i & 1);
                Due.is("bits of " + hour + ":" + minute + ", signs " + i % 8, bits,
                        written(hour, minute, i >> 2 & 1, i >> 1 & 1, i & 1));
                all.add(bits);
            }
        }
        Due.is("different BITS", all.size(), 11520);
    }

    private static void bitsByHand() {
        Due.says("the last figure, the lowest bit first; by which 4 to 11, 12 to 18 have an even number of ONES");
        MinuteSignal x = new MinuteSignal();
        Due.is("bits of 0:01", x.bits(1, 0, 0, 0), 1 << 4 | 1 << 11);
        Due.is("bits of 0:03", x.bits(3, 0, 0, 0), 1 << 4 | 1 << 5);
        Due.is("bits of 0:08", x.bits(8, 0, 0, 0), 1 << 7 | 1 << 11);
        Due.is("bits of 0:09", x.bits(9, 0, 0, 0), 1 << 4 | 1 << 7);
        Due.is("bits of 0:10", x.bits(10, 0, 0, 0), 1 << 8 | 1 << 11);
        Due.is("bits of 0:40", x.bits(40, 0, 0, 0), 1 << 10 | 1 << 11);
        Due.is("bits of 0:59", x.bits(59, 0, 0, 0), 1 << 4 | 1 << 7 | 1 << 8 | 1 << 10);
        Due.is("bits of 1:00", x.bits(60, 0, 0, 0), 1 << 12 | 1 << 18);
        Due.is("bits of 9:00", x.bits(540, 0, 0, 0), 1 << 12 | 1 << 15);
        Due.is("bits of 10:00", x.bits(600, 0, 0, 0), 1 << 16 | 1 << 18);
        Due.is("bits of 20:00", x.bits(1200, 0, 0, 0), 1 << 17 | 1 << 18);
        Due.is("bits of 23:00", x.bits(1380, 0, 0, 0), 1 << 12 | 1 << 13 | 1 << 17 | 1 << 18);
    }

    private static void goesTo(int[] from, int... due) {
        MinuteSignal x = clockAt(from[0], from[1], from[2], from[3]);
        Due.is("goes(1) from " + from[0], x.goes(1), due[0]);
        isTime("behind " + from[0] + " " + from[1] + " " + from[2] + " " + from[3], x,
                due[0], due[1], due[2], due[3]);
    }

    private static void nextMinute() {
        Due.says("NEXT: the MINUTE is one more (1439 becomes 0)");
        goesTo(new int[] {0, 0, 0, 0}, 1, 0, 0, 0);
        goesTo(new int[] {1438, 0, 0, 0}, 1439, 0, 0, 0);
        goesTo(new int[] {1439, 0, 0, 0}, 0, 0, 0, 0);
        goesTo(new int[] {1439, 1, 0, 0}, 0, 1, 0, 0);
    }

    private static void nextIsFullHour() {
        Due.says("where it is a full hour then: .. SHIFT, LEAP are 0");
        goesTo(new int[] {298, 1, 1, 1}, 299, 1, 1, 1);
        goesTo(new int[] {299, 1, 0, 1}, 300, 1, 0, 0);
        goesTo(new int[] {299, 0, 0, 1}, 300, 0, 0, 0);
        goesTo(new int[] {300, 1, 1, 1}, 301, 1, 1, 1);
        goesTo(new int[] {300, 0, 1, 0}, 301, 0, 1, 0);
    }

    private static void nextShiftsForward() {
        Due.says("if SHIFT is announced, SUMMER becomes the other one, and the MINUTE is 60 more, if it is 1 now");
        goesTo(new int[] {119, 0, 1, 0}, 180, 1, 0, 0);
        goesTo(new int[] {119, 0, 1, 1}, 180, 1, 0, 0);
        goesTo(new int[] {1319, 0, 1, 0}, 1380, 1, 0, 0);
        goesTo(new int[] {1379, 0, 1, 0}, 0, 1, 0, 0);
        goesTo(new int[] {1439, 0, 1, 0}, 60, 1, 0, 0);
        goesTo(new int[] {59, 0, 1, 0}, 120, 1, 0, 0);
    }

    private static void nextShiftsBack() {
        Due.says("else 60 less (by 1440)");
        goesTo(new int[] {179, 1, 1, 0}, 120, 0, 0, 0);
        goesTo(new int[] {179, 1, 1, 1}, 120, 0, 0, 0);
        goesTo(new int[] {59, 1, 1, 0}, 0, 0, 0, 0);
        goesTo(new int[] {1439, 1, 1, 0}, 1380, 0, 0, 0);
        goesTo(new int[] {1379, 1, 1, 0}, 1320, 0, 0, 0);
    }

    private static void nextOfEveryHour() {
        Due.says("NEXT");
        for (int i = 0; i < 24 * 8; i++) {
            for (int minute : new int[] {0, 1, 58, 59}) {
                int[] time = {60 * (i / 8) + minute, i >> 2 & 1, i >> 1 & 1, i & 1};
                goesTo(time, nextOf(time));
            }
        }
    }

    /** The vote goes from frame to frame as the clock does from minute to minute. */
    private static void framesAcrossTheHour() {
        Due.says("as if FRAME 0 had it, FRAME 1 the NEXT one, ..");
        for (int i = 0; i < 24 * 8; i++) {
            for (int minute : new int[] {0, 54, 55, 57, 59}) {
                sixFrames(new int[] {60 * (i / 8) + minute, i >> 2 & 1, i >> 1 & 1, i & 1});
            }
        }
    }

    private static void sixFrames(int[] first) {
        MinuteSignal x = new MinuteSignal();
        int[] time = first;
        int[] last = first;
        for (int frame = 0; frame < 6; frame++) {
            last = time;
            x.frames(x.bits(time[0], time[1], time[2], time[3]), 0);
            time = nextOf(time);
        }
        String of = " of six from " + first[0] + " " + first[1] + " " + first[2] + " " + first[3];
        Due.is("misses" + of, x.misses(first[0], first[1], first[2], first[3]), 0);
        Due.is("vote(4)" + of, x.vote(4), 0);
        for (int what = 0; what < 4; what++) {
            Due.is("vote(" + what + ")" + of, x.vote(what), first[what]);
            Due.is("vote(" + (7 + what) + ")" + of, x.vote(7 + what), last[what]);
        }
        for (int frame = 0; frame < 6; frame++) {
            Due.is("read(" + frame + ", 8)" + of, x.read(frame, 8), 0);
        }
        Due.is("close(0, -1)" + of, x.close(0, -1), 1);
        Due.is("close(0, 0)" + of, x.close(0, 0), 8 * first[0] + 4 * first[1] + 2 * first[2] + first[3]);
    }
}
