/** The bounds that the document names of IMAGES, on both sides, and what they don't keep. */
final class ImageEdgesTest extends Signals {
    public static void main(String[] args) {
        twoImages();
        noneWasKept();
        emptyAndFull();
        allThatIsKept();
        noClockIsKept();
        theRowIsMadeShorter();
        keptAnew();
        backAgainAndAgain();
        imagesAreNoPartOfImages();
        whatIsUndoneIsNotKept();
        nothingUndoneBehindBack();
        changesBehindBack();
        undoLeavesImages();
        imagesStayAsTheyAre();
        Due.end();
    }

    private static void twoImages() {
        Due.says("IMAGES 0, 1; An IMAGE is kept: SYMBOLS. BAD");
        MinuteSignal x = zeros(3);
        for (int image : new int[] {-1, 2, MIN, MAX}) {
            Due.is("keep(" + image + ")", x.keep(image), BAD);
            Due.is("back(" + image + ")", x.back(image), BAD);
        }
        Due.is("back(0), as nothing was kept", x.back(0), STATE);
        Due.is("back(1), as nothing was kept", x.back(1), STATE);
        Due.is("keep(0)", x.keep(0), 3);
        Due.is("keep(1)", x.keep(1), 3);
        Due.is("back(0)", x.back(0), 3);
        Due.is("back(1)", x.back(1), 3);
        Due.is("keep(2)", x.keep(2), BAD);
        Due.is("back(2)", x.back(2), BAD);
    }

    private static void noneWasKept() {
        Due.says("STATE: none was kept");
        for (int image = 0; image <= 1; image++) {
            MinuteSignal x = zeros(5);
            x.needs(7);
            x.keep(image);
            x.hears(ONE);
            Due.is("back() to the other one", x.back(1 - image), STATE);
            Due.is("count(0)", x.count(0), 6);
            Due.is("count(6)", x.count(6), 7);
            Due.is("back() to it", x.back(image), 5);
        }
    }

    private static void emptyAndFull() {
        Due.says("IMAGES 0, 1 keep THE ROW");
        MinuteSignal x = new MinuteSignal();
        Due.is("keep(0) of an empty row", x.keep(0), 0);
        hear(x, ONE, 119);
        x.hears(GAP);
        Due.is("keep(1) of a full row", x.keep(1), 120);
        Due.is("back(0)", x.back(0), 0);
        Due.is("count(0)", x.count(0), 0);
        Due.is("symbol(0)", x.symbol(0), BAD);
        Due.is("count(1)", x.count(1), 0);
        Due.is("count(2)", x.count(2), 0);
        Due.is("vote(0)", x.vote(0), NONE);
        Due.is("loses(1)", x.loses(1), BAD);
        Due.is("back(1)", x.back(1), 120);
        Due.is("hears(10)", x.hears(ZERO), FULL);
        for (int k = 0; k < 120; k++) {
            Due.is("symbol(" + k + ")", x.symbol(k), k == 119 ? 3 : 1);
        }
        Due.is("count(1)", x.count(1), 19);
        Due.is("count(2)", x.count(2), 6);
    }

    private static void allThatIsKept() {
        Due.says("IMAGES 0, 1 keep THE ROW, NEED, DRIFT, THE CLOCK");
        for (int image = 0; image <= 1; image++) {
            MinuteSignal x = frames(3, 117, 0, 1, 1);
            x.sets();
            x.needs(2);
            x.drifts(50);
            x.goes(11);
            x.keep(image);
            x.loses(60);
            hear(x, ONE, 30);
            x.needs(9);
            x.drifts(0);
            x.goes(999);
            Due.is("back(" + image + ")", x.back(image), 60);
            Due.is("count(0)", x.count(0), 60);
            Due.is("count(1)", x.count(1), 19);
            Due.is("count(2)", x.count(2), 3);
            Due.is("count(3)", x.count(3), 2);
            Due.is("count(4)", x.count(4), 50);
            isTime("of the image", x, 190, 1, 0, 0);
            Due.is("clock(4)", x.clock(4), 11);
            Due.is("clock(5)", x.clock(5), 550);
            Due.is("clock(6)", x.clock(6), 1);
            Due.is("clock(7)", x.clock(7), 71);
            Due.is("vote(0)", x.vote(0), 117);
        }
    }

    private static void noClockIsKept() {
        Due.says("All of that becomes as an IMAGE has it");
        MinuteSignal x = frames(3, 600, 0, 0, 0);
        x.keep(0);
        x.sets();
        x.goes(3);
        x.keep(1);
        x.back(0);
        Due.is("count(5)", x.count(5), 0);
        Due.is("clock(0)", x.clock(0), NO);
        Due.is("goes(1)", x.goes(1), STATE);
        x.back(1);
        Due.is("count(5)", x.count(5), 1);
        Due.is("clock(0)", x.clock(0), 605);
    }

    private static void theRowIsMadeShorter() {
        Due.says("All of that becomes as an IMAGE has it: SYMBOLS");
        MinuteSignal x = zeros(1);
        x.keep(0);
        hear(x, ONE, 119);
        Due.is("back(0)", x.back(0), 1);
        Due.is("symbol(0)", x.symbol(0), 0);
        Due.is("symbol(1)", x.symbol(1), BAD);
        Due.is("hears(15)", x.hears(UNCLEAR), 2);
        Due.is("symbol(1)", x.symbol(1), 2);
    }

    private static void keptAnew() {
        Due.says("An IMAGE is kept: SYMBOLS");
        MinuteSignal x = zeros(5);
        x.keep(0);
        x.loses(3);
        x.needs(8);
        Due.is("keep(0) anew", x.keep(0), 2);
        x.loses(2);
        x.needs(1);
        Due.is("back(0)", x.back(0), 2);
        Due.is("count(3)", x.count(3), 8);
    }

    private static void backAgainAndAgain() {
        Due.says("All of that becomes as an IMAGE has it");
        MinuteSignal x = zeros(5);
        x.keep(1);
        for (int i = 0; i < 20; i++) {
            x.loses(5);
            x.hears(GAP);
            Due.is("back(1), number " + i, x.back(1), 5);
            Due.is("symbol(0)", x.symbol(0), 0);
        }
    }

    private static void imagesAreNoPartOfImages() {
        Due.says("IMAGES keep ..; nothing else");
        MinuteSignal x = zeros(1);
        x.keep(0);
        x.hears(ONE);
        x.keep(1);
        x.back(0);
        Due.is("back(1), which was kept later", x.back(1), 2);
        x.hears(ONE);
        x.keep(0);
        x.back(1);
        Due.is("back(0), which was kept anew", x.back(0), 3);
    }

    private static void whatIsUndoneIsNotKept() {
        Due.says("IMAGES keep ..; nothing else");
        MinuteSignal x = new MinuteSignal();
        x.needs(4);
        x.needs(5);
        x.keep(0);
        Due.is("count(6) behind keep", x.count(6), 2);
        x.undo();
        x.undo();
        Due.is("back(0)", x.back(0), 0);
        Due.is("count(3)", x.count(3), 5);
        Due.is("count(6) behind back", x.count(6), 0);
        Due.is("undo()", x.undo(), STATE);
    }

    private static void nothingUndoneBehindBack() {
        Due.says("(nothing can be UNDONE behind back())");
        for (int n = 0; n <= 12; n++) {
            MinuteSignal x = new MinuteSignal();
            x.keep(0);
            for (int i = 0; i < n; i++) {
                x.drifts(i);
            }
            Due.is("count(6) ahead of back", x.count(6), Math.min(n, 10));
            x.back(0);
            Due.is("count(6) behind back", x.count(6), 0);
            Due.is("undo() behind back", x.undo(), STATE);
            Due.is("count(4)", x.count(4), 5);
        }
    }

    private static void changesBehindBack() {
        Due.says("(nothing can be UNDONE behind back())");
        MinuteSignal x = zeros(7);
        x.keep(0);
        hear(x, ONE, 4);
        x.back(0);
        for (int i = 1; i <= 11; i++) {
            x.drifts(30 + i);
            Due.is("count(6) when " + i + " are done", x.count(6), Math.min(i, 10));
        }
        for (int i = 9; i >= 0; i--) {
            Due.is("undo()", x.undo(), i);
        }
        Due.is("count(4)", x.count(4), 31);
        Due.is("undo()", x.undo(), STATE);
        x.back(0);
        x.hears(ONE);
        Due.is("undo() of the one behind back", x.undo(), 0);
        Due.is("count(0)", x.count(0), 7);
        Due.is("undo()", x.undo(), STATE);
    }

    private static void undoLeavesImages() {
        Due.says("UNDONE: the latest hears(), frames(), loses(), needs(), drifts(), sets(), goes()");
        MinuteSignal x = zeros(2);
        x.keep(0);
        x.undo();
        x.undo();
        Due.is("undo(), as keep() is none of them", x.undo(), STATE);
        Due.is("back(0)", x.back(0), 2);
    }

    private static void imagesStayAsTheyAre() {
        Due.says("IMAGES 0, 1 keep THE ROW, NEED, DRIFT, THE CLOCK");
        MinuteSignal x = clockAt(600, 0, 0, 0);
        x.keep(0);
        x.back(0);
        x.loses(20);
        x.hears(ONE);
        x.needs(9);
        x.drifts(9);
        x.goes(9);
        Due.is("back(0)", x.back(0), 20);
        Due.is("symbol(0)", x.symbol(0), 0);
        Due.is("symbol(19)", x.symbol(19), 3);
        Due.is("count(3)", x.count(3), 1);
        Due.is("count(4)", x.count(4), 5);
        Due.is("clock(0)", x.clock(0), 600);
        Due.is("clock(4)", x.clock(4), 0);
    }
}
