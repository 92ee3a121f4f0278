/** Promises 1 (a new object), 2 (hears), 3 (frames), 4 (loses), 10 (symbol). */
final class RowTest {
    public static void main(String[] args) {
        newObject();
        hears();
        hearsWhenFull();
        frames();
        framesRefused();
        framesWhenFull();
        loses();
        losesMovesTheRow();
        symbol();
        Due.end();
    }

    private static void newObject() {
        MinuteSignal x = new MinuteSignal();
        Due.is("new: SYMBOLS", x.count(0), 0);
        Due.is("new: PHASE", x.count(1), 0);
        Due.is("new: FRAMES", x.count(2), 0);
        Due.is("new: NEED", x.count(3), 3);
        Due.is("new: DRIFT", x.count(4), 5);
        Due.is("new: CLOCK", x.count(5), 0);
        Due.is("new: UNDONE", x.count(6), 0);
        Due.is("new: symbol(0)", x.symbol(0), MinuteSignal.BAD);
        Due.is("new: vote(0)", x.vote(0), MinuteSignal.NONE);
        Due.is("new: clock(0)", x.clock(0), MinuteSignal.NO);
        Due.is("new: back(0)", x.back(0), MinuteSignal.STATE);
        Due.is("new: back(1)", x.back(1), MinuteSignal.STATE);
        x.hears(8);
        Due.is("another new one: SYMBOLS", new MinuteSignal().count(0), 0);
    }

    private static int symbolDue(int length) {
        if (length == 0) {
            return 3;
        }
        if (length >= 8 && length <= 12) {
            return 0;
        }
        return length >= 18 && length <= 22 ? 1 : 2;
    }

    private static void hears() {
        MinuteSignal x = new MinuteSignal();
        for (int length = 0; length <= 30; length++) {
            Due.is("hears(" + length + ")", x.hears(length), length + 1);
        }
        for (int length = 0; length <= 30; length++) {
            Due.is("symbol of length " + length, x.symbol(length), symbolDue(length));
        }
        int[] wrong = {-1, 31, 1000, Integer.MIN_VALUE, Integer.MAX_VALUE};
        for (int length : wrong) {
            Due.is("hears(" + length + ")", x.hears(length), MinuteSignal.BAD);
        }
        Due.is("SYMBOLS after refused ones", x.count(0), 31);
    }

    private static void hearsWhenFull() {
        MinuteSignal x = new MinuteSignal();
        for (int i = 1; i <= 120; i++) {
            Due.is("hears(10), number " + i, x.hears(10), i);
        }
        Due.is("hears(10) when full", x.hears(10), MinuteSignal.FULL);
        Due.is("hears(31) when full: BAD comes first", x.hears(31), MinuteSignal.BAD);
        Due.is("SYMBOLS when full", x.count(0), 120);
        Due.is("symbol(119)", x.symbol(119), 0);
        Due.is("symbol(120)", x.symbol(120), MinuteSignal.BAD);
    }

    private static void frames() {
        MinuteSignal x = new MinuteSignal();
        int bits = 1 | 1 << 5 | 1 << 18;
        int unclear = 1 << 5 | 1 << 7 | 1 << 17;
        Due.is("frames(..)", x.frames(bits, unclear), 20);
        for (int i = 0; i < 19; i++) {
            int due = (unclear >> i & 1) == 1 ? 2 : bits >> i & 1;
            Due.is("symbol(" + i + ") of a frame", x.symbol(i), due);
        }
        Due.is("the GAP behind a frame", x.symbol(19), 3);
        Due.is("frames(all ones, none unclear)", x.frames(524287, 0), 40);
        Due.is("frames(0, all unclear)", x.frames(0, 524287), 60);
        Due.is("symbol(20)", x.symbol(20), 1);
        Due.is("symbol(38)", x.symbol(38), 1);
        Due.is("symbol(39)", x.symbol(39), 3);
        Due.is("symbol(40)", x.symbol(40), 2);
        Due.is("symbol(58)", x.symbol(58), 2);
        Due.is("symbol(59)", x.symbol(59), 3);
    }

    private static void framesRefused() {
        MinuteSignal x = new MinuteSignal();
        Due.is("frames(-1, 0)", x.frames(-1, 0), MinuteSignal.BAD);
        Due.is("frames(524288, 0)", x.frames(524288, 0), MinuteSignal.BAD);
        Due.is("frames(0, -1)", x.frames(0, -1), MinuteSignal.BAD);
        Due.is("frames(0, 524288)", x.frames(0, 524288), MinuteSignal.BAD);
        Due.is("frames(MIN, MAX)", x.frames(Integer.MIN_VALUE, Integer.MAX_VALUE), MinuteSignal.BAD);
        Due.is("SYMBOLS after refused frames", x.count(0), 0);
        Due.is("UNDONE after refused frames", x.count(6), 0);
    }

    private static void framesWhenFull() {
        MinuteSignal x = new MinuteSignal();
        x.hears(0);
        for (int i = 0; i < 5; i++) {
            Due.is("frames(0, 0)", x.frames(0, 0), 21 + 20 * i);
        }
        Due.is("frames when 19 are free", x.frames(0, 0), MinuteSignal.FULL);
        Due.is("frames(-1, 0) when 19 are free", x.frames(-1, 0), MinuteSignal.BAD);
        Due.is("SYMBOLS", x.count(0), 101);
        Due.is("loses(1)", x.loses(1), 100);
        Due.is("frames when 20 are free", x.frames(0, 0), 120);
    }

    private static void loses() {
        MinuteSignal x = new MinuteSignal();
        Due.is("loses(1) of none", x.loses(1), MinuteSignal.BAD);
        x.hears(0);
        x.hears(10);
        x.hears(20);
        Due.is("loses(0)", x.loses(0), MinuteSignal.BAD);
        Due.is("loses(-1)", x.loses(-1), MinuteSignal.BAD);
        Due.is("loses(4) of 3", x.loses(4), MinuteSignal.BAD);
        Due.is("loses(MIN)", x.loses(Integer.MIN_VALUE), MinuteSignal.BAD);
        Due.is("SYMBOLS", x.count(0), 3);
        Due.is("loses(3) of 3", x.loses(3), 0);
        Due.is("symbol(0)", x.symbol(0), MinuteSignal.BAD);
    }

    private static void losesMovesTheRow() {
        MinuteSignal x = new MinuteSignal();
        for (int length = 0; length <= 30; length++) {
            x.hears(length);
        }
        Due.is("loses(7)", x.loses(7), 24);
        for (int k = 0; k < 24; k++) {
            Due.is("symbol(" + k + ") after loses(7)", x.symbol(k), symbolDue(k + 7));
        }
        Due.is("symbol(24) after loses(7)", x.symbol(24), MinuteSignal.BAD);
        Due.is("hears(0) behind them", x.hears(0), 25);
        Due.is("symbol(24)", x.symbol(24), 3);
    }

    private static void symbol() {
        MinuteSignal x = new MinuteSignal();
        x.hears(20);
        Due.is("symbol(0)", x.symbol(0), 1);
        Due.is("symbol(1)", x.symbol(1), MinuteSignal.BAD);
        Due.is("symbol(-1)", x.symbol(-1), MinuteSignal.BAD);
        Due.is("symbol(MIN)", x.symbol(Integer.MIN_VALUE), MinuteSignal.BAD);
        Due.is("symbol(MAX)", x.symbol(Integer.MAX_VALUE), MinuteSignal.BAD);
    }
}
