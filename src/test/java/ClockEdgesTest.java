/** The bounds that the document names of THE CLOCK, its AGE, DRIFT, OLD and APART, on both sides. */
final class ClockEdgesTest extends Signals {
    public static void main(String[] args) {
        noneAtFirst();
        setsWhatIsShown();
        setsWithoutFrames();
        setsTheLastFrame();
        setsAnew();
        goesBounds();
        goesManyTimes();
        goesThroughChanges();
        ageAtMost();
        driftBounds();
        drifted();
        old();
        apartEachWay();
        apartOverMidnight();
        apartOfMinutes();
        apartByTheVote();
        apartWithoutFrames();
        clockWhat();
        Due.end();
    }

    private static void noneAtFirst() {
        Due.says("THE CLOCK (none at first)");
        MinuteSignal x = frames(3, 600, 0, 0, 0);
        Due.is("count(5)", x.count(5), 0);
        for (int what = 0; what <= 7; what++) {
            Due.is("clock(" + what + ")", x.clock(what), NO);
        }
        Due.is("goes(1)", x.goes(1), STATE);
        x.sets();
        Due.is("count(5) when set", x.count(5), 1);
        for (int what = 0; what <= 7; what++) {
            Due.isTrue("clock(" + what + ") when set", x.clock(what) != NO);
        }
        Due.is("goes(1) when set", x.goes(1), 603);
    }

    private static void setsWhatIsShown() {
        Due.says("STATE: it is not SHOWN");
        MinuteSignal x = frames(2, 600, 0, 0, 0);
        Due.is("sets() by MARGIN 2", x.sets(), STATE);
        Due.is("count(5)", x.count(5), 0);
        Due.is("count(6)", x.count(6), 2);
        x.frames(x.bits(602, 0, 0, 0), 0);
        Due.is("sets() by MARGIN 3", x.sets(), 602);
        x.needs(4);
        x.goes(7);
        Due.is("sets() by MARGIN 3, NEED 4", x.sets(), STATE);
        Due.is("clock(0) as it was", x.clock(0), 609);
        Due.is("clock(4) as it was", x.clock(4), 7);
    }

    private static void setsWithoutFrames() {
        Due.says("STATE: it is not SHOWN");
        MinuteSignal x = new MinuteSignal();
        x.needs(1);
        Due.is("sets() of an empty row", x.sets(), STATE);
        hear(x, ZERO, 19);
        Due.is("sets() of 19 without a FRAME", x.sets(), STATE);
        x.hears(ZERO);
        Due.is("sets() of a FRAME, MARGIN 1", x.sets(), 0);
    }

    private static void setsTheLastFrame() {
        Due.says("SET: THE CLOCK has the TIME that the VOTE gives the last FRAME; its AGE is 0");
        MinuteSignal x = frames(3, 1437, 0, 1, 1);
        x.frames(x.bits(60, 1, 0, 0), 0);
        Due.is("sets()", x.sets(), 60);
        isTime("behind a shift", x, 60, 1, 0, 0);
        Due.is("clock(4)", x.clock(4), 0);
        MinuteSignal y = frames(3, 1437, 0, 1, 1);
        Due.is("sets()", y.sets(), 1439);
        isTime("ahead of a shift", y, 1439, 0, 1, 1);
    }

    private static void setsAnew() {
        Due.says("SET: .. its AGE is 0");
        MinuteSignal x = frames(3, 600, 0, 0, 0);
        x.sets();
        x.goes(500);
        Due.is("sets() anew", x.sets(), 602);
        Due.is("clock(4)", x.clock(4), 0);
        Due.is("clock(5)", x.clock(5), 0);
        Due.is("clock(6)", x.clock(6), 0);
    }

    private static void goesBounds() {
        Due.says("It GOES ON: n times NEXT (1 .. 999)");
        MinuteSignal x = clockAt(300, 0, 0, 0);
        for (int n : new int[] {0, -1, 1000, MIN, MAX}) {
            Due.is("goes(" + n + ")", x.goes(n), BAD);
            Due.is("clock(0)", x.clock(0), 300);
            Due.is("clock(4)", x.clock(4), 0);
        }
        Due.is("goes(1)", x.goes(1), 301);
        Due.is("clock(4)", x.clock(4), 1);
        Due.is("goes(999)", x.goes(999), 1300);
        Due.is("clock(4)", x.clock(4), 1000);
        Due.is("goes(999) round", x.goes(999), 859);
    }

    private static void goesManyTimes() {
        Due.says("It GOES ON: n times NEXT");
        for (int signs = 0; signs < 8; signs++) {
            MinuteSignal once = clockAt(1415, signs >> 2, signs >> 1 & 1, signs & 1);
            MinuteSignal often = clockAt(1415, signs >> 2, signs >> 1 & 1, signs & 1);
            int[] time = {1415, signs >> 2, signs >> 1 & 1, signs & 1};
            for (int i = 0; i < 100; i++) {
                time = nextOf(time);
                Due.is("goes(1), number " + i, often.goes(1), time[0]);
            }
            Due.is("goes(100)", once.goes(100), time[0]);
            isTime("by 100", once, time[0], time[1], time[2], time[3]);
            isTime("by 1, 100 times", often, time[0], time[1], time[2], time[3]);
            Due.is("clock(4) by 100", once.clock(4), 100);
            Due.is("clock(4) by 1, 100 times", often.clock(4), 100);
        }
    }

    private static void goesThroughChanges() {
        Due.says("It GOES ON: n times NEXT");
        MinuteSignal x = clockAt(0, 0, 1, 1);
        Due.is("goes(59)", x.goes(59), 59);
        isTime("ahead of the hour", x, 59, 0, 1, 1);
        x.undo();
        Due.is("goes(60)", x.goes(60), 120);
        isTime("at the hour", x, 120, 1, 0, 0);
        x.undo();
        Due.is("goes(999)", x.goes(999), 1059);
        isTime("long behind it", x, 1059, 1, 0, 0);
        MinuteSignal y = clockAt(59, 1, 1, 0);
        Due.is("goes(61)", y.goes(61), 60);
        isTime("back and on", y, 60, 0, 0, 0);
    }

    /** A clock set at 0:00 that has the AGE (9000 to 9999). */
    private static MinuteSignal aged(int age) {
        MinuteSignal x = clockAt(0, 0, 0, 0);
        for (int i = 0; i < 10; i++) {
            x.goes(age / 10);
        }
        if (age % 10 > 0) {
            x.goes(age % 10);
        }
        Due.is("AGE", x.clock(4), age);
        return x;
    }

    private static void ageAtMost() {
        Due.says("AGE is n more (9999 at most)");
        int[][] due = {{9998, 1, 9999}, {9998, 2, 9999}, {9997, 1, 9998}, {9000, 998, 9998}, {9000, 999, 9999},
            {9001, 999, 9999}, {9990, 999, 9999}};
        for (int[] d : due) {
            MinuteSignal x = aged(d[0]);
            Due.is("goes(" + d[1] + ") at AGE " + d[0], x.goes(d[1]), (d[0] + d[1]) % 1440);
            Due.is("AGE behind it", x.clock(4), d[2]);
        }
        MinuteSignal x = aged(9999);
        for (int i = 1; i <= 20; i++) {
            Due.is("goes(999) at AGE 9999", x.goes(999), (9999 + 999 * i) % 1440);
            Due.is("AGE still", x.clock(4), 9999);
        }
        Due.is("sets()", x.sets(), 0);
        Due.is("AGE when set", x.clock(4), 0);
    }

    private static void driftBounds() {
        Due.says("DRIFT (0 .. 50; 5 at first)");
        MinuteSignal x = new MinuteSignal();
        Due.is("count(4)", x.count(4), 5);
        for (int drift : new int[] {-1, 51, MIN, MAX}) {
            Due.is("drifts(" + drift + ")", x.drifts(drift), BAD);
            Due.is("count(4)", x.count(4), 5);
        }
        Due.is("drifts(0)", x.drifts(0), 5);
        Due.is("count(4)", x.count(4), 0);
        Due.is("drifts(50)", x.drifts(50), 0);
        Due.is("count(4)", x.count(4), 50);
        Due.is("drifts(5)", x.drifts(5), 50);
    }

    private static void drifted() {
        Due.says("DRIFTED: DRIFT times AGE");
        MinuteSignal x = aged(9999);
        Due.is("clock(5) by DRIFT 5", x.clock(5), 49995);
        x.drifts(50);
        Due.is("clock(5) by DRIFT 50", x.clock(5), 499950);
        x.drifts(0);
        Due.is("clock(5) by DRIFT 0", x.clock(5), 0);
        x.drifts(1);
        Due.is("clock(5) by DRIFT 1", x.clock(5), 9999);
        MinuteSignal y = clockAt(0, 0, 0, 0);
        y.drifts(50);
        Due.is("clock(5) at AGE 0", y.clock(5), 0);
    }

    private static void old() {
        Due.says("OLD: that is above 500");
        int[][] due = {{5, 100, 0}, {5, 101, 1}, {50, 10, 0}, {50, 11, 1}, {1, 499, 0}, {1, 500, 0}, {1, 501, 1},
            {3, 166, 0}, {3, 167, 1}, {0, 999, 0}, {20, 25, 0}, {20, 26, 1}};
        for (int[] d : due) {
            MinuteSignal x = clockAt(0, 0, 0, 0);
            Due.is("clock(6) when set", x.clock(6), 0);
            x.drifts(d[0]);
            x.goes(d[1]);
            Due.is("clock(5) by DRIFT " + d[0] + ", AGE " + d[1], x.clock(5), d[0] * d[1]);
            Due.is("clock(6) by DRIFT " + d[0] + ", AGE " + d[1], x.clock(6), d[2]);
        }
    }

    private static void apartEachWay() {
        Due.says("APART: (-719 .. 720, the nearer way round)");
        for (int ahead = 1; ahead <= 1440; ahead++) {
            MinuteSignal x = clockAt(1000, 0, 0, 0);
            x.goes(Math.min(ahead, 999));
            if (ahead > 999) {
                x.goes(ahead - 999);
            }
            Due.is("clock(7) by " + ahead, x.clock(7), ahead <= 720 ? ahead : ahead - 1440);
        }
        Due.is("clock(7) when set", clockAt(1000, 0, 0, 0).clock(7), 0);
    }

    /** The clock set by one frame, then another one heard instead. */
    private static int apart(int clock, int vote) {
        MinuteSignal x = clockAt(clock, 0, 0, 0);
        x.loses(20);
        x.frames(x.bits(vote, 0, 0, 0), 0);
        return x.clock(7);
    }

    private static void apartOverMidnight() {
        Due.says("APART: by how many MINUTES THE CLOCK is ahead, the nearer way round");
        Due.is("APART of 0, 0", apart(0, 0), 0);
        Due.is("APART of 1439, 0", apart(1439, 0), -1);
        Due.is("APART of 0, 1439", apart(0, 1439), 1);
        Due.is("APART of 719, 0", apart(719, 0), 719);
        Due.is("APART of 720, 0", apart(720, 0), 720);
        Due.is("APART of 721, 0", apart(721, 0), -719);
        Due.is("APART of 0, 719", apart(0, 719), -719);
        Due.is("APART of 0, 720", apart(0, 720), 720);
        Due.is("APART of 0, 721", apart(0, 721), 719);
        Due.is("APART of 1439, 719", apart(1439, 719), 720);
        Due.is("APART of 719, 1439", apart(719, 1439), 720);
        Due.is("APART of 1439, 718", apart(1439, 718), -719);
    }

    private static void apartOfMinutes() {
        Due.says("APART: by how many MINUTES");
        MinuteSignal x = clockAt(100, 1, 1, 1);
        x.loses(20);
        x.frames(x.bits(98, 0, 0, 0), 0);
        Due.is("clock(7), the signs are no matter", x.clock(7), 2);
    }

    private static void apartByTheVote() {
        Due.says("APART: ahead of the TIME that the VOTE gives the last FRAME");
        MinuteSignal x = clockAt(600, 0, 0, 0);
        x.frames(x.bits(601, 0, 0, 0), 0);
        Due.is("clock(7) by two FRAMES", x.clock(7), -1);
        x.needs(9);
        Due.is("SHOWN", x.vote(6), 0);
        Due.is("clock(7) by a VOTE that is not SHOWN", x.clock(7), -1);
        MinuteSignal y = clockAt(1439, 0, 1, 0);
        y.frames(y.bits(60, 1, 0, 0), 0);
        Due.is("clock(7) through a shift", y.clock(7), -61);
        y.goes(1);
        Due.is("clock(7) when it has gone through it", y.clock(7), 0);
    }

    private static void apartWithoutFrames() {
        Due.says("NO: BAD, there is none (7: or no FRAMES)");
        MinuteSignal x = clockAt(600, 0, 0, 0);
        x.loses(1);
        Due.is("clock(7) of 19 without a FRAME", x.clock(7), NO);
        int[] due = {600, 0, 0, 0, 0, 0, 0};
        for (int what = 0; what <= 6; what++) {
            Due.is("clock(" + what + ") without FRAMES", x.clock(what), due[what]);
        }
        x.loses(19);
        Due.is("clock(7) of an empty row", x.clock(7), NO);
        Due.is("goes(1) without FRAMES", x.goes(1), 601);
        MinuteSignal none = new MinuteSignal();
        Due.is("clock(7) without both", none.clock(7), NO);
    }

    private static void clockWhat() {
        Due.says("THE CLOCK: 0 MINUTE, .., 7 APART. NO: BAD, there is none");
        MinuteSignal x = clockAt(1430, 1, 1, 1);
        x.goes(9);
        int[] due = {1439, 1, 1, 1, 9, 45, 0, 9};
        for (int what = 0; what <= 7; what++) {
            Due.is("clock(" + what + ")", x.clock(what), due[what]);
        }
        for (int what : new int[] {-1, 8, MIN, MAX}) {
            Due.is("clock(" + what + ")", x.clock(what), NO);
            Due.is("clock(" + what + ") of none", new MinuteSignal().clock(what), NO);
        }
    }
}
