/** The bounds that the document names of MISSES, VOTE, MARGIN, SHOWN and CLOSE, on both sides. */
final class VoteEdgesTest extends Signals {
    public static void main(String[] args) {
        missesOfZerosAndOnes();
        missesOutsideOfFrames();
        missesOfWholeFrames();
        missesWithoutFrames();
        missesAtMost();
        voteWithoutFrames();
        voteOfTheFewest();
        lowestMinute();
        lowestSigns();
        minuteAheadOfSummer();
        summerAheadOfShift();
        margin();
        marginOfSeveral();
        shownByNeed();
        needBounds();
        voteWhat();
        voteOfTheLast();
        closeBoundsOfW();
        closeBoundsOfK();
        closeOrFewer();
        closeOrder();
        closeNumber();
        Due.end();
    }

    /** Three frames at 10:00, the third one with its symbol i heard by the length. */
    private static MinuteSignal thirdHeard(int i, int length) {
        MinuteSignal x = frames(2, 600, 0, 0, 0);
        int bits = x.bits(602, 0, 0, 0);
        for (int k = 0; k < 19; k++) {
            x.hears(k == i ? length : (bits >> k & 1) == 1 ? ONE : ZERO);
        }
        x.hears(GAP);
        return x;
    }

    private static void missesOfZerosAndOnes() {
        Due.says("MISSES: how many ZEROS and ONES of all FRAMES are not the BITS");
        for (int i = 0; i < 19; i++) {
            boolean isOne = (new MinuteSignal().bits(602, 0, 0, 0) >> i & 1) == 1;
            MinuteSignal right = thirdHeard(i, isOne ? ONE : ZERO);
            MinuteSignal wrong = thirdHeard(i, isOne ? ZERO : ONE);
            Due.is("misses where symbol " + i + " is right", right.misses(600, 0, 0, 0), 0);
            Due.is("misses where symbol " + i + " is wrong", wrong.misses(600, 0, 0, 0), 1);
            Due.is("misses where symbol " + i + " is UNCLEAR", thirdHeard(i, UNCLEAR).misses(600, 0, 0, 0), 0);
            Due.is("misses where symbol " + i + " is a GAP", thirdHeard(i, GAP).misses(600, 0, 0, 0), 0);
            Due.is("vote(4) where symbol " + i + " is wrong", wrong.vote(4), 1);
            Due.is("vote(4) where symbol " + i + " is a GAP", thirdHeard(i, GAP).vote(4), 0);
        }
    }

    private static void missesOutsideOfFrames() {
        Due.says("MISSES: of all FRAMES");
        MinuteSignal x = new MinuteSignal();
        hear(x, ONE, 5);
        x.hears(GAP);
        hearFrames(x, 3, 0, 0, 0, 0);
        Due.is("PHASE", x.count(1), 5);
        Due.is("misses with ONES ahead of FRAME 0", x.misses(0, 0, 0, 0), 0);
        MinuteSignal y = frames(2, 0, 0, 0, 0);
        int bits = y.bits(2, 0, 0, 0);
        for (int k = 0; k < 19; k++) {
            y.hears((bits >> k & 1) == 1 ? ONE : ZERO);
        }
        y.hears(ONE);
        y.frames(y.bits(3, 0, 0, 0), 0);
        Due.is("misses with a ONE where a GAP belongs", y.misses(0, 0, 0, 0), 0);
        Due.is("FRAMES", y.count(2), 4);
    }

    private static void missesOfWholeFrames() {
        Due.says("FRAMES: all that are whole in THE ROW");
        MinuteSignal x = frames(2, 600, 0, 0, 0);
        hear(x, ONE, 18);
        Due.is("FRAMES with 18 of a third", x.count(2), 2);
        Due.is("misses", x.misses(600, 0, 0, 0), 0);
        Due.is("vote(7)", x.vote(7), 601);
        x.hears(ONE);
        Due.is("FRAMES with 19 of a third", x.count(2), 3);
        Due.is("misses", x.misses(600, 0, 0, 0), 19 - Integer.bitCount(x.bits(602, 0, 0, 0)));
    }

    private static void missesWithoutFrames() {
        Due.says("MISSES: of all FRAMES");
        Due.is("misses of an empty row", new MinuteSignal().misses(1439, 1, 1, 1), 0);
        Due.is("misses of 19 without a FRAME", zeros(19).misses(1439, 1, 1, 1), 0);
        Due.is("misses of 20 with a FRAME", zeros(20).misses(1, 0, 0, 0), 2);
    }

    private static void missesAtMost() {
        Due.says("MISSES: how many ZEROS and ONES of all FRAMES");
        MinuteSignal x = new MinuteSignal();
        int[] time = {1437, 0, 1, 1};
        for (int frame = 0; frame < 6; frame++) {
            x.frames(ALL ^ x.bits(time[0], time[1], time[2], time[3]), 0);
            time = nextOf(time);
        }
        Due.is("misses where all is wrong", x.misses(1437, 0, 1, 1), 114);
        Due.is("close(113, -1)", x.close(113, -1), 11519);
        Due.is("close(114, -1)", x.close(114, -1), 11520);
        Due.is("close(113, 8 * 1437 + 3)", x.close(113, 8 * 1437 + 3), 8 * 1437 + 4);
    }

    private static void voteWithoutFrames() {
        Due.says("(NONE without FRAMES)");
        for (int what = 0; what <= 10; what++) {
            Due.is("vote(" + what + ") of an empty row", new MinuteSignal().vote(what), NONE);
            MinuteSignal x = zeros(19);
            Due.is("vote(" + what + ") of 19", x.vote(what), NONE);
            x.hears(ZERO);
            Due.is("vote(" + what + ") of 20", x.vote(what), what == 5 ? 1 : 0);
            x.loses(1);
            Due.is("vote(" + what + ") when one is lost", x.vote(what), NONE);
        }
    }

    private static void voteOfTheFewest() {
        Due.says("VOTE: the TIME of fewest MISSES");
        for (int minute : new int[] {0, 1, 59, 60, 719, 720, 1379, 1380, 1438, 1439}) {
            for (int signs = 0; signs < 8; signs++) {
                MinuteSignal x = frames(1, minute, signs >> 2, signs >> 1 & 1, signs & 1);
                Due.is("vote(0) of " + minute, x.vote(0), minute);
                Due.is("vote(1) of " + minute, x.vote(1), signs >> 2);
                Due.is("vote(2) of " + minute, x.vote(2), signs >> 1 & 1);
                Due.is("vote(3) of " + minute, x.vote(3), signs & 1);
                Due.is("vote(4) of " + minute, x.vote(4), 0);
            }
        }
        MinuteSignal x = frames(5, 600, 0, 0, 0);
        x.frames(x.bits(605, 1, 0, 0), 0);
        Due.is("SUMMER by five against one", x.vote(1), 0);
        Due.is("MISSES", x.vote(4), 1);
    }

    private static void lowestMinute() {
        Due.says("of several the one of the lowest MINUTE");
        MinuteSignal x = new MinuteSignal();
        x.frames(x.bits(23 * 60 + 17, 0, 0, 0), 127 << 12);
        Due.is("vote(0) where the hour is unclear", x.vote(0), 17);
        Due.is("vote(5)", x.vote(5), 0);
        MinuteSignal y = new MinuteSignal();
        y.frames(y.bits(23 * 60 + 17, 0, 0, 0), 255 << 4);
        Due.is("vote(0) where the minutes are unclear", y.vote(0), 23 * 60);
        MinuteSignal z = new MinuteSignal();
        z.frames(ALL, ALL);
        Due.is("vote(0) where all is unclear", z.vote(0), 0);
        Due.is("close(0, -1)", z.close(0, -1), 11520);
    }

    private static void lowestSigns() {
        Due.says("SUMMER 0 rather than 1, SHIFT likewise, then LEAP");
        int[] unclear = {8, 2, 4};
        for (int sign = 0; sign < 3; sign++) {
            MinuteSignal x = new MinuteSignal();
            x.frames(x.bits(1439, 1, 1, 1), unclear[sign]);
            for (int other = 0; other < 3; other++) {
                Due.is("vote(" + (1 + other) + ") where sign " + sign + " is unclear", x.vote(1 + other),
                        other == sign ? 0 : 1);
            }
            Due.is("vote(0)", x.vote(0), 1439);
            Due.is("vote(5)", x.vote(5), 0);
        }
        MinuteSignal x = new MinuteSignal();
        x.frames(x.bits(77, 1, 0, 0), 0);
        x.frames(x.bits(78, 0, 0, 0), 0);
        Due.is("SUMMER by one against one", x.vote(1), 0);
        Due.is("MISSES", x.vote(4), 1);
        Due.is("MARGIN", x.vote(5), 0);
    }

    /** SHIFT in FRAME 0 and SUMMER in FRAME 1 alone are clear: 0:00 by SUMMER 1 and 0:59 by SUMMER 0 fit. */
    private static void minuteAheadOfSummer() {
        Due.says("of several the one of the lowest MINUTE, SUMMER 0 rather than 1");
        MinuteSignal x = new MinuteSignal();
        x.frames(2, ALL ^ 2);
        x.frames(8, ALL ^ 8);
        Due.is("misses(0, 1, 1, 0)", x.misses(0, 1, 1, 0), 0);
        Due.is("misses(59, 0, 1, 0)", x.misses(59, 0, 1, 0), 0);
        Due.is("misses(0, 0, 1, 0)", x.misses(0, 0, 1, 0), 1);
        Due.is("vote(0)", x.vote(0), 0);
        Due.is("vote(1)", x.vote(1), 1);
        Due.is("vote(2)", x.vote(2), 1);
    }

    /** At :59, SUMMER in FRAME 1 fits by SUMMER 0 with a SHIFT and by SUMMER 1 without one. */
    private static void summerAheadOfShift() {
        Due.says("SUMMER 0 rather than 1, SHIFT likewise");
        MinuteSignal x = new MinuteSignal();
        x.frames(x.bits(59, 0, 0, 0), ALL ^ 255 << 4);
        x.frames(8, ALL ^ 8);
        Due.is("misses(59, 0, 1, 0)", x.misses(59, 0, 1, 0), 0);
        Due.is("misses(59, 1, 0, 0)", x.misses(59, 1, 0, 0), 0);
        Due.is("vote(0)", x.vote(0), 59);
        Due.is("vote(1)", x.vote(1), 0);
        Due.is("vote(2)", x.vote(2), 1);
        Due.is("vote(8)", x.vote(8), 1);
    }

    /** Six frames; LEAP is clear in two of them, so the next best TIME is one alone, the other LEAP. */
    private static MinuteSignal leapInTwo(int leap) {
        MinuteSignal x = new MinuteSignal();
        for (int i = 0; i < 6; i++) {
            x.frames(x.bits(600 + i, 1, 1, leap), i < 2 ? 0 : 4);
        }
        return x;
    }

    private static void margin() {
        Due.says("MARGIN: the fewest MISSES of all other TIMES, less its own");
        for (int n = 1; n <= 6; n++) {
            MinuteSignal other = frames(n, 600, 0, 0, 0);
            Due.is("MARGIN of " + n + ", the next best one behind it", other.vote(5), n);
            other = frames(n, 600, 1, 1, 1);
            Due.is("MARGIN of " + n + ", the next best one ahead of it", other.vote(5), n);
        }
        for (int n = 1; n <= 6; n++) {
            Due.is("MARGIN of " + n + ", it is the first TIME", frames(n, 0, 0, 0, 0).vote(5), n);
        }
        Due.is("MARGIN, it is the last TIME", frames(1, 1439, 1, 1, 1).vote(5), 1);
        for (int leap = 0; leap <= 1; leap++) {
            Due.is("MARGIN by LEAP " + leap + " in two of six", leapInTwo(leap).vote(5), 2);
            Due.is("close(2, -1)", leapInTwo(leap).close(2, -1), 2);
        }
        MinuteSignal x = frames(5, 600, 0, 0, 0);
        x.frames(x.bits(605, 0, 0, 1) ^ 1, 0);
        Due.is("MISSES with LEAP and the first bit wrong", x.vote(4), 2);
        Due.is("MARGIN, LEAP is five against one", x.vote(5), 4);
    }

    private static void marginOfSeveral() {
        Due.says("MARGIN: the fewest MISSES of all other TIMES, less its own");
        MinuteSignal x = new MinuteSignal();
        x.frames(0, ALL);
        Due.is("MARGIN where all TIMES have no MISSES", x.vote(5), 0);
        x.frames(1, ALL ^ 1);
        Due.is("MISSES where all TIMES have one", x.vote(4), 1);
        Due.is("MARGIN where all TIMES have one", x.vote(5), 0);
        x.needs(1);
        Due.is("SHOWN", x.vote(6), 0);
    }

    private static void shownByNeed() {
        Due.says("SHOWN: MARGIN is NEED or more");
        for (int n = 1; n <= 6; n++) {
            for (int need = 1; need <= 9; need++) {
                MinuteSignal x = frames(n, 600, 0, 1, 0);
                x.needs(need);
                Due.is("SHOWN by MARGIN " + n + ", NEED " + need, x.vote(6), n >= need ? 1 : 0);
                Due.is("sets() by MARGIN " + n + ", NEED " + need, x.sets(), n >= need ? 599 + n : STATE);
            }
        }
        Due.is("SHOWN by MARGIN 2, NEED as at first", frames(2, 600, 0, 0, 0).vote(6), 0);
        Due.is("SHOWN by MARGIN 3, NEED as at first", frames(3, 600, 0, 0, 0).vote(6), 1);
    }

    private static void needBounds() {
        Due.says("NEED (1 .. 9; 3 at first)");
        MinuteSignal x = new MinuteSignal();
        Due.is("count(3)", x.count(3), 3);
        for (int need : new int[] {0, -1, 10, MIN, MAX}) {
            Due.is("needs(" + need + ")", x.needs(need), BAD);
            Due.is("count(3)", x.count(3), 3);
        }
        Due.is("needs(1)", x.needs(1), 3);
        Due.is("count(3)", x.count(3), 1);
        Due.is("needs(9)", x.needs(9), 1);
        Due.is("count(3)", x.count(3), 9);
        Due.is("needs(3)", x.needs(3), 9);
    }

    private static void voteWhat() {
        Due.says("VOTE: 0 MINUTE, .., 10 LEAP that it gives the last FRAME. BAD");
        MinuteSignal x = frames(4, 1430, 1, 0, 1);
        int[] due = {1430, 1, 0, 1, 0, 4, 1, 1433, 1, 0, 1};
        for (int what = 0; what <= 10; what++) {
            Due.is("vote(" + what + ")", x.vote(what), due[what]);
        }
        for (int what : new int[] {-1, 11, MIN, MAX}) {
            Due.is("vote(" + what + ")", x.vote(what), BAD);
            Due.is("vote(" + what + ") without FRAMES", new MinuteSignal().vote(what), BAD);
        }
    }

    private static void voteOfTheLast() {
        Due.says("7 to 10 MINUTE, SUMMER, SHIFT, LEAP that it gives the last FRAME");
        MinuteSignal x = new MinuteSignal();
        int[][] times = {{1438, 0, 1, 1}, {1439, 0, 1, 1}, {60, 1, 0, 0}, {61, 1, 0, 0}};
        for (int i = 0; i < 4; i++) {
            x.frames(x.bits(times[i][0], times[i][1], times[i][2], times[i][3]), 0);
            for (int what = 0; what < 4; what++) {
                Due.is("vote(" + what + ") of " + (i + 1), x.vote(what), times[0][what]);
                Due.is("vote(" + (7 + what) + ") of " + (i + 1), x.vote(7 + what), times[i][what]);
            }
        }
    }

    private static void closeBoundsOfW() {
        Due.says("CLOSE for w (0 .. 120)");
        MinuteSignal x = frames(1, 5, 0, 0, 0);
        for (int w : new int[] {-1, 121, MIN, MAX}) {
            Due.is("close(" + w + ", -1)", x.close(w, -1), BAD);
            Due.is("close(" + w + ", 0)", x.close(w, 0), BAD);
        }
        Due.is("close(0, -1)", x.close(0, -1), 1);
        Due.is("close(0, 0)", x.close(0, 0), 40);
        Due.is("close(120, -1)", x.close(120, -1), 11520);
        Due.is("close(120, 0)", x.close(120, 0), 0);
    }

    private static void closeBoundsOfK() {
        Due.says("how many (k = -1), the k-th; NONE. BAD: w, k below -1");
        MinuteSignal x = frames(1, 1439, 1, 1, 1);
        Due.is("close(1, -2)", x.close(1, -2), BAD);
        Due.is("close(1, MIN)", x.close(1, MIN), BAD);
        Due.is("close(1, -1)", x.close(1, -1), 4);
        int[] due = {11515, 11517, 11518, 11519};
        for (int k = 0; k < 4; k++) {
            Due.is("close(1, " + k + ")", x.close(1, k), due[k]);
        }
        Due.is("close(1, 4)", x.close(1, 4), NONE);
        Due.is("close(1, MAX)", x.close(1, MAX), NONE);
        Due.is("close(120, 11519)", x.close(120, 11519), 11519);
        Due.is("close(120, 11520)", x.close(120, 11520), NONE);
    }

    private static void closeOrFewer() {
        Due.says("how many TIMES have w MISSES or fewer");
        MinuteSignal x = new MinuteSignal();
        for (int i = 0; i < 6; i++) {
            x.frames(x.bits(600 + i, 0, 0, 0) | 1, 0);
        }
        Due.is("MISSES", x.vote(4), 6);
        Due.is("close(5, -1)", x.close(5, -1), 0);
        Due.is("close(5, 0)", x.close(5, 0), NONE);
        Due.is("close(6, -1)", x.close(6, -1), 1);
        Due.is("close(6, 0)", x.close(6, 0), 4800);
        Due.is("close(11, -1)", x.close(11, -1), 1);
        Due.is("close(12, -1)", x.close(12, -1), 4);
        for (int w = 0; w <= 120; w++) {
            int count = x.close(w, -1);
            Due.is("close(" + w + ", the number of them)", x.close(w, count), NONE);
            Due.isTrue("close(" + w + ", the last of them)", count == 0 || x.close(w, count - 1) >= 0);
        }
    }

    private static void closeOrder() {
        Due.says("in the order told of VOTE (by MINUTE, SUMMER, SHIFT, LEAP)");
        for (int from = 0; from < 11520; from += 480) {
            MinuteSignal x = new MinuteSignal();
            for (int k = from; k < from + 480; k++) {
                Due.is("close(0, " + k + ") without FRAMES", x.close(0, k), k);
            }
        }
    }

    private static void closeNumber() {
        Due.says("8 times the MINUTE and 4 times SUMMER, 2 times SHIFT, and LEAP");
        Due.is("close(0, 0) of SUMMER", frames(1, 61, 1, 0, 0).close(0, 0), 488 + 4);
        Due.is("close(0, 0) of SHIFT", frames(1, 61, 0, 1, 0).close(0, 0), 488 + 2);
        Due.is("close(0, 0) of LEAP", frames(1, 61, 0, 0, 1).close(0, 0), 488 + 1);
        Due.is("close(0, 0) of none", frames(1, 61, 0, 0, 0).close(0, 0), 488);
        Due.is("close(0, 0) of the last TIME", frames(1, 1439, 1, 1, 1).close(0, 0), 11519);
    }
}
