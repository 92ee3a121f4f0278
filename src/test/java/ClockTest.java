/** Promises 7 (sets), 8 (goes), 16 (clock). */
final class ClockTest {
    public static void main(String[] args) {
        noClock();
        setsOnlyWhatIsShown();
        sets();
        setsAgain();
        goesThroughShifts();
        goesOverMidnight();
        leapGoesAtTheHour();
        goesRefused();
        ageEnds();
        old();
        apart();
        apartWithoutFrames();
        clockRefused();
        Due.end();
    }

    /** A new object that has heard n clear frames, whose last one is at the TIME, in one hour. */
    static MinuteSignal heard(int n, int last, int summer, int shift, int leap) {
        MinuteSignal x = new MinuteSignal();
        for (int minute = last - n + 1; minute <= last; minute++) {
            x.frames(x.bits(minute, summer, shift, leap), 0);
        }
        return x;
    }

    private static void checkClock(MinuteSignal x, String of, int... due) {
        for (int what = 0; what < due.length; what++) {
            Due.is("clock(" + what + ") " + of, x.clock(what), due[what]);
        }
    }

    private static void noClock() {
        MinuteSignal x = heard(3, 302, 0, 0, 0);
        for (int what = 0; what <= 7; what++) {
            Due.is("clock(" + what + ") of none", x.clock(what), MinuteSignal.NO);
        }
        Due.is("goes(1) of none", x.goes(1), MinuteSignal.STATE);
        Due.is("goes(0) of none: BAD comes first", x.goes(0), MinuteSignal.BAD);
    }

    private static void setsOnlyWhatIsShown() {
        MinuteSignal none = new MinuteSignal();
        none.needs(1);
        Due.is("sets() without FRAMES", none.sets(), MinuteSignal.STATE);
        MinuteSignal x = heard(2, 302, 0, 0, 0);
        Due.is("sets() by MARGIN 2", x.sets(), MinuteSignal.STATE);
        Due.is("CLOCK after that", x.count(5), 0);
        Due.is("UNDONE after that", x.count(6), 2);
        x.needs(2);
        Due.is("sets() by NEED 2", x.sets(), 302);
        Due.is("CLOCK", x.count(5), 1);
    }

    private static void sets() {
        MinuteSignal x = heard(4, 1010, 1, 0, 1);
        Due.is("sets()", x.sets(), 1010);
        checkClock(x, "when set", 1010, 1, 0, 1, 0, 0, 0, 0);
        Due.is("goes(5)", x.goes(5), 1015);
        checkClock(x, "after 5", 1015, 1, 0, 1, 5, 25, 0, 5);
    }

    private static void setsAgain() {
        MinuteSignal x = heard(3, 302, 0, 0, 0);
        x.sets();
        x.goes(100);
        Due.is("AGE", x.clock(4), 100);
        Due.is("sets() again", x.sets(), 302);
        checkClock(x, "set again", 302, 0, 0, 0, 0);
        x.loses(1);
        Due.is("sets() when less is SHOWN", x.sets(), MinuteSignal.STATE);
        checkClock(x, "as it was", 302, 0, 0, 0, 0);
    }

    private static void goesThroughShifts() {
        MinuteSignal x = heard(3, 118, 0, 1, 0);
        x.sets();
        Due.is("goes(1) to 1:59", x.goes(1), 119);
        checkClock(x, "at 1:59", 119, 0, 1, 0, 1);
        Due.is("goes(1) to 3:00", x.goes(1), 180);
        checkClock(x, "at 3:00", 180, 1, 0, 0, 2);
        Due.is("goes(60): announced no more", x.goes(60), 240);
        checkClock(x, "at 4:00", 240, 1, 0, 0, 62);
        MinuteSignal y = heard(3, 179, 1, 1, 1);
        y.sets();
        Due.is("goes(1) to 2:00", y.goes(1), 120);
        checkClock(y, "at 2:00", 120, 0, 0, 0, 1, 5, 0, -59);
        Due.is("goes(61)", y.goes(61), 181);
        checkClock(y, "at 3:01", 181, 0, 0, 0, 62);
    }

    private static void goesOverMidnight() {
        MinuteSignal x = heard(3, 1439, 0, 0, 0);
        x.sets();
        Due.is("goes(1) over midnight", x.goes(1), 0);
        Due.is("goes(999)", x.goes(999), 999);
        MinuteSignal summer = heard(3, 1439, 0, 1, 0);
        summer.sets();
        Due.is("goes(1) to 1:00", summer.goes(1), 60);
        Due.is("SUMMER", summer.clock(1), 1);
        MinuteSignal winter = heard(3, 1439, 1, 1, 0);
        winter.sets();
        Due.is("goes(1) to 23:00", winter.goes(1), 1380);
        Due.is("SUMMER", winter.clock(1), 0);
        MinuteSignal early = heard(3, 1379, 0, 1, 0);
        early.sets();
        Due.is("goes(1) to 0:00", early.goes(1), 0);
        Due.is("SUMMER", early.clock(1), 1);
    }

    private static void leapGoesAtTheHour() {
        MinuteSignal x = heard(3, 658, 1, 0, 1);
        x.sets();
        x.goes(1);
        checkClock(x, "before the hour", 659, 1, 0, 1);
        x.goes(1);
        checkClock(x, "at the hour", 660, 1, 0, 0);
    }

    private static void goesRefused() {
        MinuteSignal x = heard(3, 302, 0, 0, 0);
        x.sets();
        int[] wrong = {0, -1, 1000, Integer.MIN_VALUE, Integer.MAX_VALUE};
        for (int n : wrong) {
            Due.is("goes(" + n + ")", x.goes(n), MinuteSignal.BAD);
        }
        checkClock(x, "after refused ones", 302, 0, 0, 0, 0);
        Due.is("UNDONE after refused ones", x.count(6), 4);
    }

    private static void ageEnds() {
        MinuteSignal x = heard(3, 302, 0, 0, 0);
        x.sets();
        for (int i = 1; i <= 10; i++) {
            Due.is("goes(999), number " + i, x.goes(999), (302 + 999 * i) % 1440);
            Due.is("AGE", x.clock(4), 999 * i);
        }
        x.goes(9);
        Due.is("AGE 9999", x.clock(4), 9999);
        Due.is("goes(1) at the greatest AGE", x.goes(1), (302 + 10000) % 1440);
        Due.is("AGE 9999 still", x.clock(4), 9999);
        x.goes(999);
        Due.is("AGE 9999 at last", x.clock(4), 9999);
        x.drifts(50);
        Due.is("DRIFTED at most", x.clock(5), 499950);
    }

    private static void old() {
        MinuteSignal x = heard(3, 302, 0, 0, 0);
        x.sets();
        x.goes(100);
        checkClock(x, "at AGE 100", 402, 0, 0, 0, 100, 500, 0);
        x.goes(1);
        checkClock(x, "at AGE 101", 403, 0, 0, 0, 101, 505, 1);
        x.drifts(0);
        checkClock(x, "without DRIFT", 403, 0, 0, 0, 101, 0, 0);
        x.drifts(4);
        checkClock(x, "with DRIFT 4", 403, 0, 0, 0, 101, 404, 0);
        x.drifts(50);
        checkClock(x, "with DRIFT 50", 403, 0, 0, 0, 101, 5050, 1);
    }

    private static void apart() {
        MinuteSignal x = heard(3, 302, 0, 0, 0);
        x.sets();
        x.goes(719);
        Due.is("APART 719", x.clock(7), 719);
        x.goes(1);
        Due.is("APART 720", x.clock(7), 720);
        x.goes(1);
        Due.is("APART -719", x.clock(7), -719);
        x.goes(718);
        Due.is("APART -1", x.clock(7), -1);
        x.goes(1);
        Due.is("APART 0", x.clock(7), 0);
        x.loses(20);
        Due.is("APART by the last FRAME", x.clock(7), 0);
        x.frames(x.bits(303, 0, 0, 0), 0);
        Due.is("APART when one more is heard", x.clock(7), -1);
        x.loses(40);
        x.loses(1);
        x.hears(10);
        x.frames(0, 524287);
        Due.is("APART by a VOTE that is not SHOWN", x.vote(6), 0);
        Due.is("APART then", x.clock(7), 302);
    }

    private static void apartWithoutFrames() {
        MinuteSignal x = heard(3, 302, 0, 0, 0);
        x.sets();
        x.loses(60);
        Due.is("APART without FRAMES", x.clock(7), MinuteSignal.NO);
        Due.is("MINUTE without FRAMES", x.clock(0), 302);
    }

    private static void clockRefused() {
        MinuteSignal x = heard(3, 302, 0, 0, 0);
        x.sets();
        Due.is("clock(-1)", x.clock(-1), MinuteSignal.NO);
        Due.is("clock(8)", x.clock(8), MinuteSignal.NO);
        Due.is("clock(MIN)", x.clock(Integer.MIN_VALUE), MinuteSignal.NO);
        Due.is("clock(MAX)", x.clock(Integer.MAX_VALUE), MinuteSignal.NO);
    }
}
