import java.util.ArrayList;
import java.util.List;
import java.util.function.Consumer;
import java.util.function.ToIntFunction;

/**
 * "Refused, and nothing changes, the first of these: BAD (a number is not as told, or there is no such
 * thing), STATE (as told), FULL." Every refusal of every call, in scenes that have something to lose; and
 * of part 3 "(Nothing is changed.)": the calls that only ask, and keep(), which only keeps.
 *
 * <p>Nothing has changed if an object that was refused a call can't be told from one that was not called:
 * as it stands, after any number of undo(), and after back() to either image.
 */
final class RefusedTest extends Signals {
    private static final int UNDOES = 10;

    public static void main(String[] args) {
        for (Scene scene : scenes()) {
            refusedEverywhere(scene);
            refusedInState(scene);
            refusedWhenFull(scene);
            firstOfSeveral(scene);
            asking(scene);
            keeping(scene);
        }
        Due.end();
    }

    /** How an object came to be as it is, and what can be seen of it. */
    private static final class Scene {
        final String name;
        final Consumer<MinuteSignal> played;
        final List<String> seen;
        final int size;
        final int frames;

        Scene(String name, Consumer<MinuteSignal> played) {
            this.name = name;
            this.played = played;
            this.seen = allSeen(x -> 0);
            MinuteSignal x = play();
            this.size = x.count(0);
            this.frames = x.count(2);
        }

        MinuteSignal play() {
            MinuteSignal x = new MinuteSignal();
            played.accept(x);
            return x;
        }

        /** What is seen behind the call: at once, after 1 to 10 undo(), after back() to the images. */
        List<String> allSeen(ToIntFunction<MinuteSignal> call) {
            List<String> all = new ArrayList<>();
            for (int undoes = 0; undoes <= UNDOES; undoes++) {
                MinuteSignal x = play();
                call.applyAsInt(x);
                for (int i = 0; i < undoes; i++) {
                    all.add("undo " + x.undo());
                }
                all.add(Signals.seen(x));
            }
            for (int image = 0; image <= 1; image++) {
                MinuteSignal x = play();
                call.applyAsInt(x);
                all.add("back " + x.back(image) + " " + Signals.seen(x));
            }
            return all;
        }

        void refuses(String call, int due, ToIntFunction<MinuteSignal> made) {
            Due.is(call + " in '" + name + "'", made.applyAsInt(play()), due);
            changesNothing(call, made);
        }

        void changesNothing(String call, ToIntFunction<MinuteSignal> made) {
            Due.isTrue(call + " in '" + name + "' changes nothing", allSeen(made).equals(seen));
        }
    }

    private static List<Scene> scenes() {
        List<Scene> all = new ArrayList<>();
        all.add(new Scene("new", x -> { }));
        all.add(new Scene("some pulses", x -> {
            x.hears(ONE);
            x.hears(GAP);
            x.hears(UNCLEAR);
            x.keep(1);
        }));
        all.add(new Scene("two frames, not shown", x -> {
            hearFrames(x, 2, 700, 1, 0, 0);
            x.drifts(50);
        }));
        all.add(new Scene("a clock that has gone on", x -> {
            x.keep(0);
            hearFrames(x, 3, 117, 0, 1, 1);
            x.sets();
            x.goes(1);
            x.needs(2);
            x.drifts(9);
        }));
        all.add(new Scene("a clock, the row is empty", x -> {
            hearFrames(x, 3, 1437, 1, 1, 0);
            x.sets();
            x.keep(0);
            x.loses(60);
        }));
        all.add(new Scene("100 symbols", x -> {
            hearFrames(x, 5, 600, 0, 0, 0);
            x.sets();
        }));
        all.add(new Scene("101 symbols", x -> {
            x.hears(GAP);
            hearFrames(x, 5, 600, 0, 0, 0);
        }));
        all.add(new Scene("120 symbols, an old clock, ten undone", RefusedTest::playFull));
        all.add(new Scene("120 symbols, nothing undone", x -> {
            hearFrames(x, 6, 900, 1, 0, 1);
            x.keep(1);
            x.back(1);
        }));
        return all;
    }

    private static void playFull(MinuteSignal x) {
        x.hears(ZERO);
        x.keep(0);
        x.loses(1);
        hearFrames(x, 6, 1370, 1, 1, 0);
        x.sets();
        for (int i = 0; i < 11; i++) {
            x.goes(999);
        }
        x.keep(1);
        x.needs(9);
    }

    /** What is BAD in every scene. */
    private static void refusedEverywhere(Scene s) {
        Due.says("Refused, and nothing changes: BAD (a number is not as told, or there is no such thing)");
        for (int n : new int[] {-1, 31, MIN, MAX}) {
            s.refuses("hears(" + n + ")", BAD, x -> x.hears(n));
        }
        for (int n : new int[] {-1, 524288, MIN, MAX}) {
            s.refuses("frames(" + n + ", 0)", BAD, x -> x.frames(n, 0));
            s.refuses("frames(0, " + n + ")", BAD, x -> x.frames(0, n));
        }
        for (int n : new int[] {0, -1, s.size + 1, 121, MIN, MAX}) {
            s.refuses("loses(" + n + ")", BAD, x -> x.loses(n));
        }
        for (int n : new int[] {0, -1, 10, MIN, MAX}) {
            s.refuses("needs(" + n + ")", BAD, x -> x.needs(n));
        }
        for (int n : new int[] {-1, 51, MIN, MAX}) {
            s.refuses("drifts(" + n + ")", BAD, x -> x.drifts(n));
        }
        for (int n : new int[] {0, -1, 1000, MIN, MAX}) {
            s.refuses("goes(" + n + ")", BAD, x -> x.goes(n));
        }
        for (int n : new int[] {-1, 2, MIN, MAX}) {
            s.refuses("keep(" + n + ")", BAD, x -> x.keep(n));
            s.refuses("back(" + n + ")", BAD, x -> x.back(n));
        }
        askedWrongly(s);
    }

    private static void askedWrongly(Scene s) {
        for (int n : new int[] {-1, s.size, 120, MIN, MAX}) {
            s.refuses("symbol(" + n + ")", BAD, x -> x.symbol(n));
        }
        for (int n : new int[] {-1, s.frames, 6, MIN, MAX}) {
            s.refuses("read(" + n + ", 0)", BAD, x -> x.read(n, 0));
            s.refuses("read(" + n + ", 8)", BAD, x -> x.read(n, 8));
        }
        for (int n : new int[] {-1, 9, MIN, MAX}) {
            s.refuses("read(0, " + n + ")", BAD, x -> x.read(0, n));
        }
        for (int n : new int[] {-1, 11, MIN, MAX}) {
            s.refuses("vote(" + n + ")", BAD, x -> x.vote(n));
        }
        for (int n : new int[] {-1, 121, MIN, MAX}) {
            s.refuses("close(" + n + ", 0)", BAD, x -> x.close(n, 0));
        }
        for (int n : new int[] {-2, MIN}) {
            s.refuses("close(0, " + n + ")", BAD, x -> x.close(0, n));
        }
        for (int n : new int[] {-1, 7, MIN, MAX}) {
            s.refuses("count(" + n + ")", BAD, x -> x.count(n));
        }
        for (int n : new int[] {-1, 8, MIN, MAX}) {
            s.refuses("clock(" + n + ")", NO, x -> x.clock(n));
        }
        for (int n : new int[] {-1, 1440, MIN, MAX}) {
            s.refuses("misses(" + n + ", 0, 0, 0)", BAD, x -> x.misses(n, 0, 0, 0));
            s.refuses("bits(" + n + ", 0, 0, 0)", BAD, x -> x.bits(n, 0, 0, 0));
        }
        for (int n : new int[] {-1, 2}) {
            s.refuses("misses(0, " + n + ", 0, 0)", BAD, x -> x.misses(0, n, 0, 0));
            s.refuses("misses(0, 0, " + n + ", 0)", BAD, x -> x.misses(0, 0, n, 0));
            s.refuses("misses(0, 0, 0, " + n + ")", BAD, x -> x.misses(0, 0, 0, n));
            s.refuses("bits(0, " + n + ", 0, 0)", BAD, x -> x.bits(0, n, 0, 0));
            s.refuses("bits(0, 0, " + n + ", 0)", BAD, x -> x.bits(0, 0, n, 0));
            s.refuses("bits(0, 0, 0, " + n + ")", BAD, x -> x.bits(0, 0, 0, n));
        }
    }

    private static boolean in(Scene scene, String... names) {
        return List.of(names).contains(scene.name);
    }

    private static void refusedInState(Scene s) {
        Due.says("Refused, and nothing changes: STATE (as told)");
        if (in(s, "new", "some pulses", "two frames, not shown", "a clock, the row is empty",
                "120 symbols, an old clock, ten undone")) {
            s.refuses("sets(): it is not SHOWN", STATE, x -> x.sets());
        } else {
            Due.isTrue("sets() in '" + s.name + "'", s.play().sets() >= 0);
        }
        if (in(s, "new", "some pulses", "two frames, not shown", "101 symbols", "120 symbols, nothing undone")) {
            s.refuses("goes(1): there is no CLOCK", STATE, x -> x.goes(1));
            s.refuses("goes(999): there is no CLOCK", STATE, x -> x.goes(999));
        } else {
            Due.isTrue("goes(1) in '" + s.name + "'", s.play().goes(1) >= 0);
        }
        if (in(s, "new", "120 symbols, nothing undone")) {
            s.refuses("undo(): none", STATE, x -> x.undo());
        } else {
            Due.isTrue("undo() in '" + s.name + "'", s.play().undo() >= 0);
        }
        boolean kept0 = in(s, "a clock that has gone on", "a clock, the row is empty",
                "120 symbols, an old clock, ten undone");
        boolean kept1 = in(s, "some pulses", "120 symbols, an old clock, ten undone", "120 symbols, nothing undone");
        refusesUnlessKept(s, 0, kept0);
        refusesUnlessKept(s, 1, kept1);
    }

    private static void refusesUnlessKept(Scene s, int image, boolean kept) {
        if (kept) {
            Due.isTrue("back(" + image + ") in '" + s.name + "'", s.play().back(image) >= 0);
        } else {
            s.refuses("back(" + image + "): none was kept", STATE, x -> x.back(image));
        }
    }

    private static void refusedWhenFull(Scene s) {
        Due.says("Refused, and nothing changes: FULL");
        if (s.size == 120) {
            s.refuses("hears(0)", FULL, x -> x.hears(0));
            s.refuses("hears(30)", FULL, x -> x.hears(30));
        } else {
            Due.is("hears(0) in '" + s.name + "'", s.play().hears(0), s.size + 1);
        }
        if (s.size > 100) {
            s.refuses("frames(0, 0)", FULL, x -> x.frames(0, 0));
            s.refuses("frames(524287, 524287)", FULL, x -> x.frames(ALL, ALL));
        } else {
            Due.is("frames(0, 0) in '" + s.name + "'", s.play().frames(0, 0), s.size + 20);
        }
    }

    /** Where two refusals fit, which is why each scene is asked: full ones, ones without a clock or image. */
    private static void firstOfSeveral(Scene s) {
        Due.says("the first of these: BAD, STATE, FULL");
        Due.is("hears(31), BAD ahead of FULL, in '" + s.name + "'", s.play().hears(31), BAD);
        Due.is("frames(-1, 0), BAD ahead of FULL, in '" + s.name + "'", s.play().frames(-1, 0), BAD);
        Due.is("frames(0, 524288), BAD ahead of FULL, in '" + s.name + "'", s.play().frames(0, ALL + 1), BAD);
        Due.is("goes(1000), BAD ahead of STATE, in '" + s.name + "'", s.play().goes(1000), BAD);
        Due.is("back(2), BAD ahead of STATE, in '" + s.name + "'", s.play().back(2), BAD);
        Due.is("vote(11), BAD ahead of NONE, in '" + s.name + "'", s.play().vote(11), BAD);
        Due.is("close(121, MAX), BAD ahead of NONE, in '" + s.name + "'", s.play().close(121, MAX), BAD);
    }

    private static void asking(Scene s) {
        Due.says("(Nothing is changed.)");
        s.changesNothing("symbol(0)", x -> x.symbol(0));
        s.changesNothing("count(0 .. 6)", x -> {
            int sum = 0;
            for (int what = 0; what <= 6; what++) {
                sum += x.count(what);
            }
            return sum;
        });
        s.changesNothing("read(0, 0 .. 8)", x -> {
            int sum = 0;
            for (int what = 0; what <= 8; what++) {
                sum += x.read(0, what);
            }
            return sum;
        });
        s.changesNothing("vote(0 .. 10)", x -> {
            int sum = 0;
            for (int what = 0; what <= 10; what++) {
                sum += x.vote(what);
            }
            return sum;
        });
        s.changesNothing("clock(0 .. 7)", x -> {
            int sum = 0;
            for (int what = 0; what <= 7; what++) {
                sum += x.clock(what);
            }
            return sum;
        });
        s.changesNothing("misses(1439, 1, 1, 1)", x -> x.misses(1439, 1, 1, 1));
        s.changesNothing("bits(1439, 1, 1, 1)", x -> x.bits(1439, 1, 1, 1));
        s.changesNothing("close(0, -1)", x -> x.close(0, -1));
        s.changesNothing("close(120, MAX)", x -> x.close(120, MAX));
    }

    /** keep() changes its image; all else, the other image and what may be undone, stays. */
    private static void keeping(Scene s) {
        Due.says("IMAGES 0, 1 keep THE ROW, NEED, DRIFT, THE CLOCK; nothing else");
        for (int image = 0; image <= 1; image++) {
            int kept = image;
            List<String> behind = s.allSeen(x -> x.keep(kept));
            int ofImage = s.seen.size() - 2 + image;
            for (int i = 0; i < s.seen.size(); i++) {
                if (i != ofImage) {
                    Due.isTrue("keep(" + image + ") in '" + s.name + "' leaves what is seen as number " + i,
                            behind.get(i).equals(s.seen.get(i)));
                }
            }
            MinuteSignal x = s.play();
            Due.is("keep(" + image + ") in '" + s.name + "'", x.keep(image), s.size);
        }
    }
}
