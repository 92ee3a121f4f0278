/** The bounds that the document names of THE ROW, of PHASE and of FRAMES, on both sides. */
final class RowEdgesTest extends Signals {
    public static void main(String[] args) {
        newObject();
        symbolsAtMost();
        fullByFrames();
        lengths();
        symbolsOfLengths();
        symbolNumbers();
        phaseGoesRound();
        phaseOfTheMost();
        phaseOfSeveral();
        phaseAskedOften();
        phaseWithoutGaps();
        framesThatAreWhole();
        framesOfAFullRow();
        frameBits();
        frameUnclear();
        frameFull();
        losesAtLeastOne();
        losesTheFirst();
        countWhat();
        manyCalls();
        Due.end();
    }

    private static void newObject() {
        Due.says("As told; THE ROW is empty");
        MinuteSignal x = new MinuteSignal();
        int[] due = {0, 0, 0, 3, 5, 0, 0};
        for (int what = 0; what < due.length; what++) {
            Due.is("count(" + what + ")", x.count(what), due[what]);
        }
        Due.is("symbol(0)", x.symbol(0), BAD);
        Due.is("read(0, 0)", x.read(0, 0), BAD);
        Due.is("vote(0)", x.vote(0), NONE);
        Due.is("clock(0)", x.clock(0), NO);
        Due.is("loses(1)", x.loses(1), BAD);
        Due.is("sets()", x.sets(), STATE);
        Due.is("goes(1)", x.goes(1), STATE);
        Due.is("undo()", x.undo(), STATE);
        Due.is("back(0)", x.back(0), STATE);
        Due.is("back(1)", x.back(1), STATE);
    }

    private static void symbolsAtMost() {
        Due.says("SYMBOLS 0, 1, .. (120 at most)");
        MinuteSignal x = zeros(119);
        Due.is("count(0)", x.count(0), 119);
        Due.is("hears(20), the 120th", x.hears(ONE), 120);
        Due.is("hears(20), the 121st", x.hears(ONE), FULL);
        Due.is("hears(0), the 121st", x.hears(GAP), FULL);
        Due.is("count(0)", x.count(0), 120);
        Due.is("symbol(119)", x.symbol(119), 1);
        Due.is("count(1), as no GAP was taken", x.count(1), 0);
        Due.is("loses(1)", x.loses(1), 119);
        Due.is("symbol(118)", x.symbol(118), 1);
        Due.is("hears(0) where there is room again", x.hears(GAP), 120);
        Due.is("symbol(119)", x.symbol(119), 3);
        Due.is("hears(0)", x.hears(GAP), FULL);
    }

    private static void fullByFrames() {
        Due.says("SYMBOLS 0, 1, .. (120 at most)");
        MinuteSignal x = new MinuteSignal();
        for (int i = 1; i <= 6; i++) {
            Due.is("frames, number " + i, x.frames(0, 0), 20 * i);
        }
        Due.is("frames, number 7", x.frames(0, 0), FULL);
        Due.is("hears(10)", x.hears(ZERO), FULL);
        Due.is("symbol(119)", x.symbol(119), 3);
        Due.is("symbol(120)", x.symbol(120), BAD);
    }

    private static void lengths() {
        Due.says("by LENGTH (0 .. 30)");
        MinuteSignal x = new MinuteSignal();
        Due.is("hears(-1)", x.hears(-1), BAD);
        Due.is("hears(0)", x.hears(0), 1);
        Due.is("hears(30)", x.hears(30), 2);
        Due.is("hears(31)", x.hears(31), BAD);
        Due.is("hears(MIN)", x.hears(MIN), BAD);
        Due.is("hears(MAX)", x.hears(MAX), BAD);
        Due.is("count(0)", x.count(0), 2);
    }

    private static void symbolsOfLengths() {
        Due.says("0 a GAP (3); 8 .. 12 a ZERO (0); 18 .. 22 a ONE (1); others UNCLEAR (2)");
        int[] lengths = {0, 1, 7, 8, 9, 10, 11, 12, 13, 17, 18, 19, 20, 21, 22, 23, 30};
        int[] due = {3, 2, 2, 0, 0, 0, 0, 0, 2, 2, 1, 1, 1, 1, 1, 2, 2};
        MinuteSignal x = new MinuteSignal();
        for (int i = 0; i < lengths.length; i++) {
            x.hears(lengths[i]);
            Due.is("symbol of length " + lengths[i], x.symbol(i), due[i]);
        }
    }

    private static void symbolNumbers() {
        Due.says("SYMBOLS 0, 1, ..; symbol(k). BAD");
        for (int size : new int[] {1, 2, 20, 119, 120}) {
            MinuteSignal x = zeros(size - 1);
            x.hears(ONE);
            Due.is("symbol(-1) of " + size, x.symbol(-1), BAD);
            Due.is("symbol(0) of " + size, x.symbol(0), size == 1 ? 1 : 0);
            Due.is("symbol, the last of " + size, x.symbol(size - 1), 1);
            Due.is("symbol behind the last of " + size, x.symbol(size), BAD);
        }
    }

    private static void phaseGoesRound() {
        Due.says("PHASE: 0 .. 19: SYMBOLS whose number leaves it by 20");
        for (int k = 0; k < 120; k++) {
            MinuteSignal x = zeros(k);
            x.hears(GAP);
            Due.is("PHASE by one GAP, number " + k, x.count(1), k % 20);
        }
    }

    private static void phaseOfTheMost() {
        Due.says("PHASE: that for which the most SYMBOLS are GAPS");
        for (int phase = 0; phase < 20; phase++) {
            MinuteSignal x = new MinuteSignal();
            for (int k = 0; k < 40; k++) {
                // each one has a GAP in the first twenty, and one of them two
                x.hears(k < 20 || k == 20 + phase ? GAP : ONE);
            }
            Due.is("PHASE by two GAPS against one each", x.count(1), phase);
        }
        MinuteSignal x = new MinuteSignal();
        for (int k = 0; k < 120; k++) {
            boolean isGap = k % 20 == 17 || k % 20 == 3 && k < 100;
            x.hears(isGap ? GAP : UNCLEAR);
        }
        Due.is("PHASE by six GAPS against five, the others unclear", x.count(1), 17);
    }

    private static void phaseOfSeveral() {
        Due.says("PHASE: of several the lowest");
        for (int low = 0; low < 20; low++) {
            for (int high = low + 1; high < 20; high++) {
                MinuteSignal x = zeros(high);
                x.hears(GAP);
                hear(x, ZERO, 19 + low - high);
                Due.is("PHASE of " + high + " alone", x.count(1), high);
                x.hears(GAP);
                Due.is("PHASE of " + high + " and, heard later, " + low, x.count(1), low);
            }
        }
    }

    /** What was asked before, of a shorter row, is no matter. */
    private static void phaseAskedOften() {
        Due.says("PHASE: that for which the most SYMBOLS are GAPS");
        for (int phase = 0; phase < 20; phase++) {
            MinuteSignal x = new MinuteSignal();
            for (int k = 0; k < 20; k++) {
                x.hears(k == phase ? GAP : ZERO);
                Due.is("PHASE of " + (k + 1), x.count(1), k < phase ? 0 : phase);
            }
            int other = (phase + 7) % 20;
            for (int k = 20; k < 60; k++) {
                x.hears(k % 20 == other ? GAP : ZERO);
                if (k == 20 + other) {
                    Due.is("PHASE by one GAP each", x.count(1), Math.min(phase, other));
                }
            }
            Due.is("PHASE by two GAPS against one", x.count(1), other);
        }
    }

    private static void phaseWithoutGaps() {
        Due.says("PHASE: of several the lowest");
        Due.is("PHASE of an empty row", new MinuteSignal().count(1), 0);
        Due.is("PHASE without GAPS", zeros(50).count(1), 0);
        MinuteSignal x = new MinuteSignal();
        hear(x, GAP, 120);
        Due.is("PHASE of GAPS alone", x.count(1), 0);
        Due.is("FRAMES of GAPS alone", x.count(2), 6);
    }

    private static void framesThatAreWhole() {
        Due.says("FRAMES: 19 SYMBOLS each, from PHASE and 1 on (PHASE 19: from 0 on), .., all that are whole");
        for (int phase = 0; phase < 20; phase++) {
            int first = phase == 19 ? 0 : phase + 1;
            MinuteSignal x = new MinuteSignal();
            for (int k = 0; k < 120; k++) {
                x.hears(k % 20 == phase ? GAP : ZERO);
                if (k >= phase) {
                    int whole = 0;
                    for (int last = first + 18; last <= k; last += 20) {
                        whole++;
                    }
                    Due.is("FRAMES of " + (k + 1) + " by PHASE " + phase, x.count(2), whole);
                }
            }
            int frames = x.count(2);
            for (int frame = 0; frame < frames; frame++) {
                Due.is("first SYMBOL of FRAME " + frame + " by PHASE " + phase, x.read(frame, 0), first + 20 * frame);
            }
            Due.is("first SYMBOL of FRAME " + frames + " by PHASE " + phase, x.read(frames, 0), BAD);
        }
    }

    private static void framesOfAFullRow() {
        Due.says("FRAMES: all that are whole in THE ROW");
        int[][] due = {{0, 119, 5}, {0, 120, 6}, {1, 120, 5}, {18, 117, 4}, {18, 118, 5}, {18, 120, 5},
            {19, 18, 0}, {19, 19, 0}, {19, 118, 5}, {19, 119, 6}, {19, 120, 6}};
        for (int[] d : due) {
            MinuteSignal x = new MinuteSignal();
            for (int k = 0; k < d[1]; k++) {
                x.hears(k % 20 == d[0] ? GAP : ZERO);
            }
            Due.is("FRAMES of " + d[1] + " by PHASE " + d[0], x.count(2), d[2]);
        }
    }

    private static void frameBits() {
        Due.says("BITS (0 .. 2 to the power of 19 less 1)");
        MinuteSignal x = new MinuteSignal();
        Due.is("frames(-1, 0)", x.frames(-1, 0), BAD);
        Due.is("frames(524288, 0)", x.frames(524288, 0), BAD);
        Due.is("frames(0, 0)", x.frames(0, 0), 20);
        Due.is("frames(524287, 0)", x.frames(524287, 0), 40);
        for (int k = 0; k < 40; k++) {
            Due.is("symbol(" + k + ")", x.symbol(k), k % 20 == 19 ? 3 : k / 20);
        }
        for (int i = 0; i < 19; i++) {
            MinuteSignal y = new MinuteSignal();
            y.frames(1 << i, 0);
            for (int k = 0; k < 20; k++) {
                Due.is("symbol(" + k + ") by bit " + i, y.symbol(k), k == 19 ? 3 : k == i ? 1 : 0);
            }
        }
    }

    private static void frameUnclear() {
        Due.says("UNCLEAR ones (bits, likewise)");
        MinuteSignal x = new MinuteSignal();
        Due.is("frames(0, -1)", x.frames(0, -1), BAD);
        Due.is("frames(0, 524288)", x.frames(0, 524288), BAD);
        Due.is("frames(524287, 524287)", x.frames(524287, 524287), 20);
        for (int k = 0; k < 20; k++) {
            Due.is("symbol(" + k + ")", x.symbol(k), k == 19 ? 3 : 2);
        }
        for (int i = 0; i < 19; i++) {
            MinuteSignal y = new MinuteSignal();
            y.frames(0, 1 << i);
            y.frames(ALL, 1 << i);
            for (int k = 0; k < 40; k++) {
                int due = k % 20 == 19 ? 3 : k % 20 == i ? 2 : k / 20;
                Due.is("symbol(" + k + ") with bit " + i + " unclear", y.symbol(k), due);
            }
        }
    }

    private static void frameFull() {
        Due.says("FULL: 20 more would be more than 120");
        for (int size = 0; size <= 120; size++) {
            MinuteSignal x = zeros(size);
            Due.is("frames(524287, 0) behind " + size, x.frames(ALL, 0), size <= 100 ? size + 20 : FULL);
            Due.is("count(0)", x.count(0), size <= 100 ? size + 20 : size);
            Due.is("symbol(" + size + ")", x.symbol(size), size <= 100 ? 1 : BAD);
        }
    }

    private static void losesAtLeastOne() {
        Due.says("BAD: fewer than 1, more than there are");
        for (int size : new int[] {0, 1, 2, 19, 20, 119, 120}) {
            MinuteSignal x = zeros(size);
            Due.is("loses(0) of " + size, x.loses(0), BAD);
            Due.is("loses(-1) of " + size, x.loses(-1), BAD);
            Due.is("loses, one too many of " + size, x.loses(size + 1), BAD);
            Due.is("count(0)", x.count(0), size);
            if (size > 0) {
                Due.is("loses(1) of " + size, x.loses(1), size - 1);
                x.undo();
                Due.is("loses, all of " + size, x.loses(size), 0);
                Due.is("symbol(0)", x.symbol(0), BAD);
                Due.is("loses(1) of none", x.loses(1), BAD);
            }
        }
    }

    private static void losesTheFirst() {
        Due.says("LOST: the first n SYMBOLS of THE ROW go");
        int[] lengths = {GAP, ZERO, ONE, UNCLEAR, ONE, GAP, ONE};
        int[] symbols = {3, 0, 1, 2, 1, 3, 1};
        for (int n : new int[] {1, 2, 7, 60, 118, 119}) {
            MinuteSignal x = new MinuteSignal();
            for (int k = 0; k < 120; k++) {
                x.hears(lengths[k % 7]);
            }
            Due.is("loses(" + n + ")", x.loses(n), 120 - n);
            for (int k = 0; k < 120 - n; k++) {
                Due.is("symbol(" + k + ") behind loses(" + n + ")", x.symbol(k), symbols[(k + n) % 7]);
            }
            Due.is("symbol behind the last", x.symbol(120 - n), BAD);
        }
        MinuteSignal x = frames(3, 300, 0, 0, 0);
        x.loses(1);
        Due.is("PHASE goes with them", x.count(1), 18);
        Due.is("FRAMES", x.count(2), 2);
        Due.is("VOTE of the second", x.vote(0), 301);
        x.loses(19);
        Due.is("PHASE goes round", x.count(1), 19);
        Due.is("FRAMES", x.count(2), 2);
    }

    private static void countWhat() {
        Due.says("count: 0 SYMBOLS, .., 6 how many may be UNDONE. BAD");
        MinuteSignal x = zeros(2);
        Due.is("count(-1)", x.count(-1), BAD);
        Due.is("count(0)", x.count(0), 2);
        Due.is("count(6)", x.count(6), 2);
        Due.is("count(7)", x.count(7), BAD);
    }

    private static void manyCalls() {
        Due.says("An object is used for at most 512 calls");
        MinuteSignal x = new MinuteSignal();
        for (int call = 1; call <= 510; call += 2) {
            Due.is("call " + call + ", frames(0, 0)", x.frames(0, 0), 20);
            Due.is("call " + (call + 1) + ", loses(20)", x.loses(20), 0);
        }
        Due.is("call 511, hears(0)", x.hears(GAP), 1);
        Due.is("call 512, undo()", x.undo(), 9);
    }
}
