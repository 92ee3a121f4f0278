import java.util.List;
import java.util.function.ToIntFunction;

/** The bounds that the document names of what may be UNDONE, on both sides. */
final class UndoEdgesTest extends Signals {
    public static void main(String[] args) {
        noneAtFirst();
        tenAreKnown();
        olderOnesAreLost();
        tenOfEveryKind();
        undoneAndDoneAgain();
        refusedOnes();
        othersAreNotUndone();
        undoIsNotUndone();
        framesAtOnce();
        fullRow();
        emptyRow();
        settings();
        firstClock();
        laterClock();
        ageBehindItsEnd();
        Due.end();
    }

    private static void noneAtFirst() {
        Due.says("UNDONE: how many more may be. STATE: none");
        MinuteSignal x = new MinuteSignal();
        Due.is("undo()", x.undo(), STATE);
        Due.is("count(6)", x.count(6), 0);
        x.hears(ONE);
        Due.is("count(6)", x.count(6), 1);
        Due.is("undo() of one", x.undo(), 0);
        Due.is("undo() of none", x.undo(), STATE);
        Due.is("count(0)", x.count(0), 0);
    }

    private static void tenAreKnown() {
        Due.says("(10 are known, older ones are lost)");
        for (int n = 1; n <= 25; n++) {
            MinuteSignal x = new MinuteSignal();
            for (int i = 1; i <= n; i++) {
                x.drifts(20 + i);
            }
            int known = Math.min(n, 10);
            Due.is("count(6) of " + n, x.count(6), known);
            for (int i = 1; i <= known; i++) {
                Due.is("undo() number " + i + " of " + n, x.undo(), known - i);
                Due.is("count(6)", x.count(6), known - i);
                Due.is("count(4)", x.count(4), n == i ? 5 : 20 + n - i);
            }
            Due.is("undo() number " + (known + 1) + " of " + n, x.undo(), STATE);
            Due.is("count(4)", x.count(4), n <= 10 ? 5 : 20 + n - 10);
        }
    }

    private static void olderOnesAreLost() {
        Due.says("(10 are known, older ones are lost)");
        MinuteSignal x = zeros(120);
        for (int left = 9; left >= 0; left--) {
            Due.is("undo()", x.undo(), left);
        }
        Due.is("undo() of the eleventh", x.undo(), STATE);
        Due.is("count(0)", x.count(0), 110);
    }

    private static List<ToIntFunction<MinuteSignal>> changes() {
        return List.of(x -> x.hears(ONE), x -> x.frames(0, 0), x -> x.loses(1), x -> x.needs(9), x -> x.drifts(9),
                x -> x.sets(), x -> x.goes(9));
    }

    /** Each kind of change is one of the ten, and is taken back whole; nine older ones stay known. */
    private static void tenOfEveryKind() {
        Due.says("UNDONE: the latest hears(), frames(), loses(), needs(), drifts(), sets(), goes()");
        for (int kind = 0; kind < changes().size(); kind++) {
            MinuteSignal x = frames(3, 600, 0, 0, 0);
            x.needs(1);
            x.sets();
            x.goes(1);
            for (int i = 0; i < 4; i++) {
                x.drifts(40 + i);
            }
            Due.is("count(6) ahead of kind " + kind, x.count(6), 10);
            String ahead = seen(x);
            Due.isTrue("kind " + kind + " is not refused", changes().get(kind).applyAsInt(x) >= 0);
            Due.is("count(6) behind kind " + kind, x.count(6), 10);
            Due.isTrue("kind " + kind + " changes something", !seen(x).equals(ahead));
            Due.is("undo() of kind " + kind, x.undo(), 9);
            Due.isTrue("undo() of kind " + kind + " takes all of it back",
                    seen(x).equals(ahead.replace("count 6=10", "count 6=9")));
            Due.is("undo() of the one ahead of kind " + kind, x.undo(), 8);
            Due.is("count(4)", x.count(4), 42);
        }
    }

    private static void undoneAndDoneAgain() {
        Due.says("(10 are known, older ones are lost)");
        MinuteSignal x = new MinuteSignal();
        for (int i = 1; i <= 14; i++) {
            x.drifts(i);
        }
        for (int i = 1; i <= 7; i++) {
            x.undo();
        }
        Due.is("count(4) behind 14 and 7 undone", x.count(4), 7);
        Due.is("count(6)", x.count(6), 3);
        for (int i = 31; i <= 37; i++) {
            x.drifts(i);
        }
        Due.is("count(6) when 7 more are done", x.count(6), 10);
        x.drifts(38);
        Due.is("count(6) when 8 more are done", x.count(6), 10);
        int[] due = {37, 36, 35, 34, 33, 32, 31, 7, 6, 5};
        for (int i = 0; i < 10; i++) {
            Due.is("undo()", x.undo(), 9 - i);
            Due.is("count(4)", x.count(4), due[i]);
        }
        Due.is("undo() of no more", x.undo(), STATE);
    }

    private static void refusedOnes() {
        Due.says("UNDONE: the latest .. that was not refused");
        MinuteSignal x = zeros(101);
        x.undo();
        x.hears(ONE);
        int known = x.count(6);
        x.hears(31);
        x.frames(0, 0);
        x.frames(-1, 0);
        x.loses(102);
        x.loses(0);
        x.needs(10);
        x.drifts(51);
        x.sets();
        x.goes(1);
        x.goes(0);
        Due.is("count(6) behind refused ones", x.count(6), known);
        Due.is("undo() of the one ahead of them", x.undo(), known - 1);
        Due.is("count(0)", x.count(0), 100);
    }

    private static void othersAreNotUndone() {
        Due.says("UNDONE: the latest hears(), frames(), loses(), needs(), drifts(), sets(), goes()");
        MinuteSignal x = frames(1, 600, 0, 0, 0);
        x.keep(0);
        x.keep(1);
        x.symbol(0);
        x.read(0, 8);
        x.vote(6);
        x.misses(0, 0, 0, 0);
        x.close(3, -1);
        x.bits(0, 0, 0, 0);
        x.clock(0);
        x.count(6);
        Due.is("count(6)", x.count(6), 1);
        Due.is("undo()", x.undo(), 0);
        Due.is("count(0)", x.count(0), 0);
        Due.is("back(0)", x.back(0), 20);
    }

    private static void undoIsNotUndone() {
        Due.says("UNDONE: the latest .. : how many more may be");
        MinuteSignal x = new MinuteSignal();
        x.needs(4);
        x.needs(5);
        x.needs(6);
        Due.is("undo()", x.undo(), 2);
        Due.is("count(3)", x.count(3), 5);
        Due.is("undo()", x.undo(), 1);
        Due.is("count(3)", x.count(3), 4);
        Due.is("needs(7)", x.needs(7), 4);
        Due.is("count(6)", x.count(6), 2);
        Due.is("undo()", x.undo(), 1);
        Due.is("count(3)", x.count(3), 4);
        Due.is("undo()", x.undo(), 0);
        Due.is("count(3)", x.count(3), 3);
    }

    private static void framesAtOnce() {
        Due.says("a FRAME at once: 19 SYMBOLS, then a GAP");
        MinuteSignal x = frames(6, 600, 0, 0, 0);
        Due.is("count(6)", x.count(6), 6);
        Due.is("undo()", x.undo(), 5);
        Due.is("count(0)", x.count(0), 100);
        Due.is("symbol(99)", x.symbol(99), 3);
        Due.is("symbol(100)", x.symbol(100), BAD);
        Due.is("vote(7)", x.vote(7), 604);
    }

    private static void fullRow() {
        Due.says("SYMBOLS (120 at most)");
        MinuteSignal x = zeros(119);
        x.hears(ONE);
        Due.is("hears(20)", x.hears(ONE), FULL);
        x.undo();
        Due.is("hears(0) behind undo()", x.hears(GAP), 120);
        Due.is("symbol(119)", x.symbol(119), 3);
        Due.is("PHASE", x.count(1), 19);
        x.loses(120);
        Due.is("undo() of loses(120)", x.undo(), 9);
        Due.is("count(0)", x.count(0), 120);
        Due.is("symbol(0)", x.symbol(0), 0);
        Due.is("symbol(119)", x.symbol(119), 3);
        Due.is("PHASE", x.count(1), 19);
    }

    private static void emptyRow() {
        Due.says("UNDONE: the latest loses()");
        MinuteSignal x = new MinuteSignal();
        x.hears(ONE);
        x.loses(1);
        x.hears(GAP);
        Due.is("undo()", x.undo(), 2);
        Due.is("count(0)", x.count(0), 0);
        Due.is("undo()", x.undo(), 1);
        Due.is("symbol(0)", x.symbol(0), 1);
        Due.is("count(0)", x.count(0), 1);
    }

    private static void settings() {
        Due.says("UNDONE: the latest needs(), drifts() that was not refused");
        MinuteSignal x = new MinuteSignal();
        Due.is("needs(3), as it is", x.needs(3), 3);
        Due.is("drifts(5), as it is", x.drifts(5), 5);
        Due.is("count(6)", x.count(6), 2);
        x.needs(9);
        x.drifts(50);
        Due.is("undo()", x.undo(), 3);
        Due.is("count(4)", x.count(4), 5);
        Due.is("count(3)", x.count(3), 9);
        Due.is("undo()", x.undo(), 2);
        Due.is("count(3)", x.count(3), 3);
    }

    private static void firstClock() {
        Due.says("UNDONE: the latest sets(); THE CLOCK (none at first)");
        MinuteSignal x = frames(3, 600, 0, 0, 0);
        x.sets();
        x.undo();
        Due.is("count(5)", x.count(5), 0);
        Due.is("clock(0)", x.clock(0), NO);
        Due.is("goes(1)", x.goes(1), STATE);
        Due.is("sets()", x.sets(), 602);
    }

    private static void laterClock() {
        Due.says("UNDONE: the latest sets(), goes()");
        MinuteSignal x = clockAt(119, 0, 1, 1);
        x.goes(1);
        isTime("at 3:00", x, 180, 1, 0, 0);
        x.sets();
        Due.is("clock(4) when set", x.clock(4), 0);
        x.undo();
        isTime("behind undo() of sets()", x, 180, 1, 0, 0);
        Due.is("clock(4)", x.clock(4), 1);
        x.undo();
        isTime("behind undo() of goes()", x, 119, 0, 1, 1);
        Due.is("clock(4)", x.clock(4), 0);
    }

    private static void ageBehindItsEnd() {
        Due.says("AGE is n more (9999 at most)");
        MinuteSignal x = clockAt(0, 0, 0, 0);
        for (int i = 0; i < 10; i++) {
            x.goes(950);
        }
        x.goes(900);
        Due.is("clock(4)", x.clock(4), 9999);
        x.undo();
        Due.is("clock(4) behind undo()", x.clock(4), 9500);
        Due.is("clock(0)", x.clock(0), 9500 % 1440);
        x.goes(499);
        Due.is("clock(4)", x.clock(4), 9999);
    }
}
