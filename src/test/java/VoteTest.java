/** Promises 12 (vote), 13 (misses), 14 (close), 15 (bits). */
final class VoteTest {
    public static void main(String[] args) {
        withoutFrames();
        clearFrames();
        withoutChange();
        shiftToSummer();
        shiftFromSummer();
        shiftOverMidnight();
        leapEndsAtTheHour();
        ofSeveralTheLowest();
        marginIsNone();
        notShown();
        misses();
        missesAgreeWithVote();
        timesRefused();
        close();
        closeRefused();
        bitsByHand();
        voteRefused();
        Due.end();
    }

    private static void checkVote(MinuteSignal x, String of, int... due) {
        for (int what = 0; what < due.length; what++) {
            Due.is("vote(" + what + ") of " + of, x.vote(what), due[what]);
        }
    }

    private static void withoutFrames() {
        MinuteSignal x = new MinuteSignal();
        for (int i = 0; i < 19; i++) {
            x.hears(10);
        }
        for (int what = 0; what <= 10; what++) {
            Due.is("vote(" + what + ") without FRAMES", x.vote(what), MinuteSignal.NONE);
        }
        Due.is("vote(11) without FRAMES", x.vote(11), MinuteSignal.BAD);
        Due.is("misses without FRAMES", x.misses(77, 1, 0, 1), 0);
        Due.is("close(0, -1) without FRAMES", x.close(0, -1), 11520);
        Due.is("close(0, 4711) without FRAMES", x.close(0, 4711), 4711);
    }

    private static void clearFrames() {
        MinuteSignal x = new MinuteSignal();
        for (int i = 0; i < 6; i++) {
            x.frames(x.bits(615 + i, 1, 0, 1), 0);
        }
        checkVote(x, "six clear frames", 615, 1, 0, 1, 0, 6, 1, 620, 1, 0, 1);
    }

    private static void withoutChange() {
        MinuteSignal x = new MinuteSignal();
        x.frames(x.bits(1438, 1, 0, 0), 0);
        x.frames(x.bits(1439, 1, 0, 0), 0);
        x.frames(x.bits(0, 1, 0, 0), 0);
        x.frames(x.bits(1, 1, 0, 0), 0);
        checkVote(x, "midnight", 1438, 1, 0, 0, 0, 2, 0, 1, 1, 0, 0);
    }

    private static void shiftToSummer() {
        MinuteSignal x = new MinuteSignal();
        for (int minute = 117; minute < 120; minute++) {
            x.frames(x.bits(minute, 0, 1, 0), 0);
        }
        for (int minute = 180; minute < 183; minute++) {
            x.frames(x.bits(minute, 1, 0, 0), 0);
        }
        checkVote(x, "a shift to summer", 117, 0, 1, 0, 0, 3, 1, 182, 1, 0, 0);
    }

    private static void shiftFromSummer() {
        MinuteSignal x = new MinuteSignal();
        for (int minute = 177; minute < 180; minute++) {
            x.frames(x.bits(minute, 1, 1, 0), 0);
        }
        for (int minute = 120; minute < 123; minute++) {
            x.frames(x.bits(minute, 0, 0, 0), 0);
        }
        checkVote(x, "a shift from summer", 177, 1, 1, 0, 0, 3, 1, 122, 0, 0, 0);
    }

    private static void shiftOverMidnight() {
        MinuteSignal x = new MinuteSignal();
        for (int minute = 1437; minute < 1440; minute++) {
            x.frames(x.bits(minute, 1, 1, 1), 0);
        }
        for (int minute = 1380; minute < 1383; minute++) {
            x.frames(x.bits(minute, 0, 0, 0), 0);
        }
        checkVote(x, "23:59 back to 23:00", 1437, 1, 1, 1, 0, 3, 1, 1382, 0, 0, 0);
        MinuteSignal y = new MinuteSignal();
        for (int minute = 1377; minute < 1380; minute++) {
            y.frames(y.bits(minute, 0, 1, 0), 0);
        }
        for (int minute = 0; minute < 3; minute++) {
            y.frames(y.bits(minute, 1, 0, 0), 0);
        }
        checkVote(y, "22:59 on to 0:00", 1377, 0, 1, 0, 0, 3, 1, 2, 1, 0, 0);
    }

    private static void leapEndsAtTheHour() {
        MinuteSignal x = new MinuteSignal();
        for (int minute = 57; minute < 60; minute++) {
            x.frames(x.bits(minute, 0, 0, 1), 0);
        }
        for (int minute = 60; minute < 63; minute++) {
            x.frames(x.bits(minute, 0, 0, 0), 0);
        }
        checkVote(x, "a leap announced", 57, 0, 0, 1, 0, 3, 1, 62, 0, 0, 0);
    }

    private static void ofSeveralTheLowest() {
        MinuteSignal x = new MinuteSignal();
        x.frames(0, 524287);
        checkVote(x, "nothing clear", 0, 0, 0, 0, 0, 0, 0, 0, 0, 0, 0);
        MinuteSignal y = new MinuteSignal();
        y.frames(14, 524287 & ~14);
        checkVote(y, "signs alone", 0, 1, 1, 1, 0, 0, 0, 0, 1, 1, 1);
        MinuteSignal z = new MinuteSignal();
        z.frames(8, 524287 & ~8);
        checkVote(z, "SUMMER alone", 0, 1, 0, 0, 0, 0, 0, 0, 1, 0, 0);
    }

    private static void marginIsNone() {
        MinuteSignal x = new MinuteSignal();
        x.frames(x.bits(500, 1, 1, 1), 1 << 2);
        checkVote(x, "LEAP unclear", 500, 1, 1, 0, 0, 0, 0);
        x.needs(1);
        Due.is("SHOWN by NEED 1", x.vote(6), 0);
    }

    private static void notShown() {
        MinuteSignal x = new MinuteSignal();
        x.frames(x.bits(500, 0, 0, 0), 0);
        x.frames(x.bits(501, 0, 0, 0), 0);
        Due.is("MARGIN of two", x.vote(5), 2);
        Due.is("SHOWN of two", x.vote(6), 0);
        x.frames(x.bits(502, 0, 0, 0), 0);
        Due.is("MARGIN of three", x.vote(5), 3);
        Due.is("SHOWN of three", x.vote(6), 1);
    }

    private static void misses() {
        MinuteSignal x = new MinuteSignal();
        x.frames(0, 0);
        Due.is("misses(0, 0, 0, 0)", x.misses(0, 0, 0, 0), 0);
        Due.is("misses(0, 1, 1, 1)", x.misses(0, 1, 1, 1), 3);
        Due.is("misses(1, 0, 0, 0)", x.misses(1, 0, 0, 0), 2);
        Due.is("misses(7, 0, 0, 0)", x.misses(7, 0, 0, 0), 4);
        x.frames(1, 1 << 4);
        Due.is("misses of the first bit, through the parity", x.misses(0, 0, 0, 0), 2);
        x.hears(20);
        Due.is("misses of what is no whole frame", x.misses(0, 0, 0, 0), 2);
    }

    private static MinuteSignal noise() {
        MinuteSignal x = new MinuteSignal();
        int[] bits = {0x12345, 0x6BCDE, 0x0FF10, 0x55555, 0x2AAAA, 0x71C71};
        for (int i = 0; i < 6; i++) {
            x.frames(bits[i], i == 2 ? 0x08421 : 0);
        }
        return x;
    }

    private static void missesAgreeWithVote() {
        MinuteSignal x = noise();
        int fewest = 1000;
        int second = 1000;
        int best = -1;
        for (int time = 0; time < 11520; time++) {
            // an object is used for 512 calls at most
            x = time % 480 == 0 ? noise() : x;
            int here = x.misses(time / 8, time >> 2 & 1, time >> 1 & 1, time & 1);
            if (here < fewest) {
                second = fewest;
                fewest = here;
                best = time;
            } else if (here < second) {
                second = here;
            }
        }
        checkVote(x, "noise", best / 8, best >> 2 & 1, best >> 1 & 1, best & 1, fewest, second - fewest);
    }

    private static void timesRefused() {
        MinuteSignal x = new MinuteSignal();
        int[][] wrong = {{-1, 0, 0, 0}, {1440, 0, 0, 0}, {0, -1, 0, 0}, {0, 2, 0, 0}, {0, 0, -1, 0},
            {0, 0, 2, 0}, {0, 0, 0, -1}, {0, 0, 0, 2}, {Integer.MAX_VALUE, 0, 0, 0}};
        for (int[] w : wrong) {
            Due.is("misses of no TIME", x.misses(w[0], w[1], w[2], w[3]), MinuteSignal.BAD);
            Due.is("bits of no TIME", x.bits(w[0], w[1], w[2], w[3]), MinuteSignal.BAD);
        }
    }

    private static void close() {
        MinuteSignal x = new MinuteSignal();
        x.frames(x.bits(0, 0, 0, 0), 0);
        Due.is("close(0, -1)", x.close(0, -1), 1);
        Due.is("close(0, 0)", x.close(0, 0), 0);
        Due.is("close(0, 1)", x.close(0, 1), MinuteSignal.NONE);
        Due.is("close(1, -1)", x.close(1, -1), 4);
        int[] due = {0, 1, 2, 4};
        for (int k = 0; k < 4; k++) {
            Due.is("close(1, " + k + ")", x.close(1, k), due[k]);
        }
        Due.is("close(1, 4)", x.close(1, 4), MinuteSignal.NONE);
        Due.is("close(1, MAX)", x.close(1, Integer.MAX_VALUE), MinuteSignal.NONE);
        Due.is("close(120, -1)", x.close(120, -1), 11520);
        Due.is("close(120, 11519)", x.close(120, 11519), 11519);
        Due.is("close(120, 11520)", x.close(120, 11520), MinuteSignal.NONE);
    }

    private static void closeRefused() {
        MinuteSignal x = new MinuteSignal();
        Due.is("close(-1, 0)", x.close(-1, 0), MinuteSignal.BAD);
        Due.is("close(121, -1)", x.close(121, -1), MinuteSignal.BAD);
        Due.is("close(0, -2)", x.close(0, -2), MinuteSignal.BAD);
        Due.is("close(0, MIN)", x.close(0, Integer.MIN_VALUE), MinuteSignal.BAD);
    }

    private static void bitsByHand() {
        MinuteSignal x = new MinuteSignal();
        Due.is("bits of 0:00", x.bits(0, 0, 0, 0), 0);
        Due.is("bits of SUMMER", x.bits(0, 1, 0, 0), 8);
        Due.is("bits of SHIFT", x.bits(0, 0, 1, 0), 2);
        Due.is("bits of LEAP", x.bits(0, 0, 0, 1), 4);
        // 19:37: 7 = 1110, 3 = 110, odd; 9 = 1001, 1 = 10, odd; the lowest bit stands first
        int due = 0b111 << 4 | 0b011 << 8 | 1 << 11 | 0b1001 << 12 | 0b01 << 16 | 1 << 18;
        Due.is("bits of 19:37", x.bits(19 * 60 + 37, 0, 0, 0), due);
        // 23:59, all signs: 9 = 1001, 5 = 101, even; 3 = 1100, 2 = 01, odd
        due = 0b1110 | 0b1001 << 4 | 0b101 << 8 | 0b0011 << 12 | 0b10 << 16 | 1 << 18;
        Due.is("bits of 23:59", x.bits(1439, 1, 1, 1), due);
    }

    private static void voteRefused() {
        MinuteSignal x = new MinuteSignal();
        x.frames(0, 0);
        Due.is("vote(-1)", x.vote(-1), MinuteSignal.BAD);
        Due.is("vote(11)", x.vote(11), MinuteSignal.BAD);
        Due.is("vote(MIN)", x.vote(Integer.MIN_VALUE), MinuteSignal.BAD);
        Due.is("vote(MAX)", x.vote(Integer.MAX_VALUE), MinuteSignal.BAD);
    }
}
