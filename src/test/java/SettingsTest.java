/** Promises 5 (needs), 6 (drifts), 19 (count). */
final class SettingsTest {
    public static void main(String[] args) {
        needs();
        needDecidesWhatIsShown();
        drifts();
        phase();
        phaseOfSeveral();
        frameCount();
        countRefused();
        Due.end();
    }

    private static void needs() {
        MinuteSignal x = new MinuteSignal();
        Due.is("needs(1)", x.needs(1), 3);
        Due.is("needs(9)", x.needs(9), 1);
        Due.is("needs(0)", x.needs(0), MinuteSignal.BAD);
        Due.is("needs(10)", x.needs(10), MinuteSignal.BAD);
        Due.is("needs(-5)", x.needs(-5), MinuteSignal.BAD);
        Due.is("NEED", x.count(3), 9);
        Due.is("needs(9) once more", x.needs(9), 9);
        Due.is("UNDONE", x.count(6), 3);
    }

    private static void needDecidesWhatIsShown() {
        MinuteSignal x = new MinuteSignal();
        for (int minute = 600; minute < 604; minute++) {
            x.frames(x.bits(minute, 0, 0, 0), 0);
        }
        Due.is("MARGIN of four clear frames", x.vote(5), 4);
        for (int need = 1; need <= 9; need++) {
            x.needs(need);
            Due.is("SHOWN by NEED " + need, x.vote(6), need <= 4 ? 1 : 0);
        }
    }

    private static void drifts() {
        MinuteSignal x = new MinuteSignal();
        Due.is("drifts(0)", x.drifts(0), 5);
        Due.is("drifts(50)", x.drifts(50), 0);
        Due.is("drifts(-1)", x.drifts(-1), MinuteSignal.BAD);
        Due.is("drifts(51)", x.drifts(51), MinuteSignal.BAD);
        Due.is("DRIFT", x.count(4), 50);
        Due.is("UNDONE", x.count(6), 2);
    }

    private static void phase() {
        for (int phase = 0; phase < 20; phase++) {
            MinuteSignal x = new MinuteSignal();
            for (int i = 0; i < phase; i++) {
                x.hears(10);
            }
            x.hears(0);
            Due.is("PHASE by one gap at " + phase, x.count(1), phase);
        }
    }

    private static void phaseOfSeveral() {
        MinuteSignal x = new MinuteSignal();
        for (int k = 0; k < 60; k++) {
            boolean isGap = k == 3 || k == 7 || k == 11 || k == 27 || k == 31;
            x.hears(isGap ? 0 : 10);
        }
        Due.is("PHASE of 7 and 11 with two gaps each, 3 with one", x.count(1), 7);
        for (int k = 60; k < 72; k++) {
            x.hears(k == 71 ? 0 : 10);
        }
        Due.is("PHASE when 11 has three", x.count(1), 11);
        x.loses(12);
        Due.is("PHASE when the first 12 are lost", x.count(1), 19);
    }

    private static void frameCount() {
        MinuteSignal x = new MinuteSignal();
        for (int size = 1; size <= 120; size++) {
            x.hears(10);
            Due.is("FRAMES of " + size + " without a gap (PHASE 0)", x.count(2), size / 20);
        }
        MinuteSignal y = new MinuteSignal();
        y.frames(0, 0);
        Due.is("FRAMES of PHASE 19", y.count(2), 1);
        for (int size = 21; size <= 120; size++) {
            y.hears(size % 20 == 0 ? 0 : 10);
            Due.is("FRAMES of " + size + " of PHASE 19", y.count(2), (size + 1) / 20);
        }
        MinuteSignal z = new MinuteSignal();
        for (int size = 1; size <= 120; size++) {
            z.hears(size == 19 ? 0 : 10);
            if (size >= 19) {
                Due.is("FRAMES of " + size + " of PHASE 18", z.count(2), (size - 19 + 1) / 20);
            }
        }
    }

    private static void countRefused() {
        MinuteSignal x = new MinuteSignal();
        Due.is("count(-1)", x.count(-1), MinuteSignal.BAD);
        Due.is("count(7)", x.count(7), MinuteSignal.BAD);
        Due.is("count(MIN)", x.count(Integer.MIN_VALUE), MinuteSignal.BAD);
        Due.is("count(MAX)", x.count(Integer.MAX_VALUE), MinuteSignal.BAD);
    }
}
