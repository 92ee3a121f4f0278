/** Promises 9 (undo), 17 (keep), 18 (back). */
final class UndoTest {
    public static void main(String[] args) {
        eachKind();
        tenAreKnown();
        refusedOnesAreNotKnown();
        goesOnBehindUndo();
        keepAndBack();
        imagesAreTwo();
        backEndsUndoing();
        undoLeavesImages();
        imagesRefused();
        Due.end();
    }

    private static void eachKind() {
        MinuteSignal x = new MinuteSignal();
        Due.is("undo() of none", x.undo(), MinuteSignal.STATE);
        for (int minute = 300; minute < 303; minute++) {
            x.frames(x.bits(minute, 1, 0, 1), 0);
        }
        x.hears(20);
        x.sets();
        x.goes(7);
        x.needs(8);
        x.drifts(44);
        x.loses(2);
        Due.is("UNDONE", x.count(6), 9);
        Due.is("undo() of loses", x.undo(), 8);
        Due.is("SYMBOLS", x.count(0), 61);
        Due.is("symbol(60)", x.symbol(60), 1);
        Due.is("VOTE", x.vote(7), 302);
        Due.is("undo() of drifts", x.undo(), 7);
        Due.is("DRIFT", x.count(4), 5);
        Due.is("undo() of needs", x.undo(), 6);
        Due.is("NEED", x.count(3), 3);
        Due.is("MINUTE", x.clock(0), 309);
        Due.is("undo() of goes", x.undo(), 5);
        Due.is("MINUTE", x.clock(0), 302);
        Due.is("AGE", x.clock(4), 0);
        Due.is("undo() of sets", x.undo(), 4);
        Due.is("CLOCK", x.count(5), 0);
        Due.is("undo() of hears", x.undo(), 3);
        Due.is("SYMBOLS", x.count(0), 60);
        Due.is("undo() of frames", x.undo(), 2);
        Due.is("SYMBOLS", x.count(0), 40);
        Due.is("FRAMES", x.count(2), 2);
        Due.is("undo()", x.undo(), 1);
        Due.is("undo()", x.undo(), 0);
        Due.is("undo() of no more", x.undo(), MinuteSignal.STATE);
        Due.is("SYMBOLS", x.count(0), 0);
    }

    private static void tenAreKnown() {
        MinuteSignal x = new MinuteSignal();
        for (int i = 1; i <= 25; i++) {
            x.drifts(i);
            Due.is("UNDONE after " + i, x.count(6), Math.min(i, 10));
        }
        for (int i = 1; i <= 10; i++) {
            Due.is("undo() number " + i, x.undo(), 10 - i);
            Due.is("DRIFT", x.count(4), 25 - i);
        }
        Due.is("undo() of lost ones", x.undo(), MinuteSignal.STATE);
        Due.is("DRIFT", x.count(4), 15);
    }

    private static void refusedOnesAreNotKnown() {
        MinuteSignal x = new MinuteSignal();
        x.hears(-1);
        x.frames(-1, 0);
        x.loses(1);
        x.needs(0);
        x.drifts(99);
        x.sets();
        x.goes(1);
        x.undo();
        x.keep(0);
        x.vote(0);
        x.close(3, 3);
        Due.is("UNDONE", x.count(6), 0);
        x.needs(3);
        Due.is("UNDONE of a change to the same", x.count(6), 1);
    }

    private static void goesOnBehindUndo() {
        MinuteSignal x = new MinuteSignal();
        x.needs(4);
        x.needs(5);
        x.undo();
        x.needs(6);
        Due.is("UNDONE", x.count(6), 2);
        x.undo();
        Due.is("NEED", x.count(3), 4);
        x.undo();
        Due.is("NEED", x.count(3), 3);
    }

    private static void keepAndBack() {
        MinuteSignal x = shownAt(400);
        x.sets();
        x.goes(3);
        x.needs(2);
        x.drifts(9);
        Due.is("keep(1)", x.keep(1), 60);
        x.goes(50);
        x.needs(7);
        x.drifts(1);
        x.loses(60);
        x.hears(0);
        Due.is("PHASE ahead of back", x.count(1), 0);
        Due.is("VOTE ahead of back", x.vote(7), MinuteSignal.NONE);
        Due.is("CLOSE ahead of back", x.close(0, -1), 11520);
        Due.is("back(1)", x.back(1), 60);
        Due.is("CLOSE", x.close(0, -1), 1);
        Due.is("NEED", x.count(3), 2);
        Due.is("DRIFT", x.count(4), 9);
        Due.is("MINUTE", x.clock(0), 403);
        Due.is("AGE", x.clock(4), 3);
        Due.is("VOTE", x.vote(7), 400);
        Due.is("APART", x.clock(7), 3);
        Due.is("PHASE", x.count(1), 19);
        x.loses(60);
        Due.is("back(1) again", x.back(1), 60);
        Due.is("symbol(59)", x.symbol(59), 3);
    }

    private static void imagesAreTwo() {
        MinuteSignal x = new MinuteSignal();
        Due.is("keep(0)", x.keep(0), 0);
        x.hears(20);
        x.needs(5);
        Due.is("back(1) of none", x.back(1), MinuteSignal.STATE);
        Due.is("SYMBOLS after a refused back", x.count(0), 1);
        Due.is("UNDONE after a refused back", x.count(6), 2);
        Due.is("keep(1)", x.keep(1), 1);
        Due.is("back(0)", x.back(0), 0);
        Due.is("NEED of image 0", x.count(3), 3);
        Due.is("back(1)", x.back(1), 1);
        Due.is("NEED of image 1", x.count(3), 5);
        x.hears(10);
        Due.is("keep(1) anew", x.keep(1), 2);
        x.loses(2);
        Due.is("back(1)", x.back(1), 2);
        Due.is("symbol(0)", x.symbol(0), 1);
        Due.is("symbol(1)", x.symbol(1), 0);
    }

    private static void backEndsUndoing() {
        MinuteSignal x = new MinuteSignal();
        x.hears(20);
        x.keep(0);
        x.hears(10);
        Due.is("UNDONE ahead of back", x.count(6), 2);
        x.back(0);
        Due.is("UNDONE behind back", x.count(6), 0);
        Due.is("undo() behind back", x.undo(), MinuteSignal.STATE);
        x.needs(9);
        Due.is("undo() of what came later", x.undo(), 0);
        Due.is("SYMBOLS", x.count(0), 1);
        Due.is("undo()", x.undo(), MinuteSignal.STATE);
    }

    private static void undoLeavesImages() {
        MinuteSignal x = new MinuteSignal();
        x.hears(20);
        x.keep(0);
        x.undo();
        Due.is("SYMBOLS", x.count(0), 0);
        Due.is("back(0)", x.back(0), 1);
        x.hears(10);
        x.hears(0);
        x.undo();
        x.undo();
        Due.is("SYMBOLS", x.count(0), 1);
        Due.is("back(0)", x.back(0), 1);
        Due.is("symbol(0)", x.symbol(0), 1);
    }

    private static void imagesRefused() {
        MinuteSignal x = new MinuteSignal();
        int[] wrong = {-1, 2, Integer.MIN_VALUE, Integer.MAX_VALUE};
        for (int image : wrong) {
            Due.is("keep(" + image + ")", x.keep(image), MinuteSignal.BAD);
            Due.is("back(" + image + ")", x.back(image), MinuteSignal.BAD);
        }
        Due.is("back(0)", x.back(0), MinuteSignal.STATE);
    }

    private static MinuteSignal shownAt(int last) {
        MinuteSignal x = new MinuteSignal();
        for (int minute = last - 2; minute <= last; minute++) {
            x.frames(x.bits(minute, 0, 0, 0), 0);
        }
        return x;
    }
}
