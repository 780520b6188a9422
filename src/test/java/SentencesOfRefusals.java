import java.util.function.ToLongFunction;

/** Of each promise: "What is refused answers as told and changes nothing but STATUS." */
final class SentencesOfRefusals {
    private static final int NONE = Sentences.NONE;
    private static final int HIDDEN = Sentences.HIDDEN;
    private static final int LOW = Sentences.LOW;
    private static final int HIGH = Sentences.HIGH;

    private SentencesOfRefusals() {
    }

    static void tell() {
        texts();
        peaks();
        acts();
        logs();
        questions();
        scripts();
    }

    /** These calls are refused, each with this answer, and so many of them as acts in each way of STATUS. */
    @SafeVarargs
    private static void refused(TracePeaks x, long answer, int places, int bounds, ToLongFunction<TracePeaks>... calls) {
        Sentences.changesNothing(x, places, bounds, () -> {
            for (int i = 0; i < calls.length; i++) {
                Sentences.due("refused call " + i, calls[i].applyAsLong(x), answer);
            }
        });
    }

    /** Calls that are refused with and without a trace. */
    @SafeVarargs
    private static void never(int promise, long answer, ToLongFunction<TracePeaks>... calls) {
        test(promise, () -> {
            refused(Sentences.busy(), answer, 0, 0, calls);
            refused(Sentences.traceless(), answer, 0, 0, calls);
        });
    }

    private static void test(int promise, Runnable body) {
        Sentences.test(promise, "Terms, at their end", "What is refused answers as told and changes nothing but STATUS.", body);
    }

    private static void texts() {
        test(2, () -> {
            TracePeaks x = Sentences.busy();
            Checks.write(x, "trace 1;line a 1" + ";".repeat(380));
            refused(x, NONE, 0, 0, y -> y.feed(-1, -1, -1, -1, -1), y -> y.feed(1, HIGH, 0, 0, 0));
            Sentences.due("the TAPE is as it was", x.end(16) ? x.text(0) : 0, 1);
        });
        never(3, 0, x -> x.end(-1) ? 1 : 0, x -> x.end(5) ? 1 : 0, x -> x.end(LOW) ? 1 : 0, x -> x.end(HIGH) ? 1 : 0);
        never(4, -2, x -> x.fault(-1), x -> x.fault(2), x -> x.fault(LOW), x -> x.fault(HIGH));
        test(5, () -> {
            refused(Sentences.busy(), NONE, 0, 0, x -> x.text(0), x -> x.text(2), x -> x.text(-1), x -> x.text(LOW), x -> x.text(HIGH));
            refused(Sentences.traceless(), NONE, 0, 0, x -> x.text(0), x -> x.text(2), x -> x.text(-1));
            TracePeaks full = Sentences.busy();
            for (int i = 1; i < 4; i++) {
                Checks.script(full, "flat");
            }
            Checks.write(full, "noise 7");
            refused(full, NONE, 0, 0, x -> x.text(1), x -> x.text(0));
        });
    }

    private static void peaks() {
        never(6, NONE, x -> x.rule(-1), x -> x.rule(8), x -> x.rule(LOW), x -> x.rule(HIGH));
        never(7, NONE, x -> x.sample(-1), x -> x.sample(10), x -> x.sample(LOW), x -> x.sample(HIGH));
        never(8, Sentences.THROWS, x -> Checks.peak(x, -1, 0), x -> Checks.peak(x, 5, 0), x -> Checks.peak(x, 0, -1),
                x -> Checks.peak(x, 0, 9), x -> Checks.peak(x, LOW, LOW), x -> Checks.peak(x, HIGH, HIGH));
        never(9, NONE, x -> x.basin(-1, 0), x -> x.basin(4, 0), x -> x.basin(5, 0), x -> x.basin(0, -1), x -> x.basin(0, 4),
                x -> x.basin(LOW, HIGH), x -> x.basin(HIGH, LOW));
        never(10, NONE, x -> x.at(-1, 0), x -> x.at(10, 1), x -> x.at(0, -1), x -> x.at(0, 2), x -> x.at(LOW, 1), x -> x.at(HIGH, 1));
        never(11, NONE, x -> x.line(-1, 0), x -> x.line(4, 0), x -> x.line(0, -1), x -> x.line(0, 3), x -> x.line(LOW, 1),
                x -> x.line(HIGH, 1));
    }

    private static void acts() {
        test(12, () -> refused(Sentences.traceless(), NONE, 1, 0, x -> x.smooth()));
        test(13, () -> refused(Sentences.traceless(), NONE, 1, 0, x -> x.median()));
        test(14, () -> refused(Sentences.traceless(), NONE, 1, 0, x -> x.flat()));
        test(15, () -> refused(Sentences.traceless(), NONE, 1, 0, x -> x.turn()));
        test(16, () -> {
            refused(Sentences.traceless(), NONE, 2, 0, x -> x.clip(5), x -> x.clip(-1));
            refused(Sentences.busy(), NONE, 0, 2, x -> x.clip(-1), x -> x.clip(1000));
        });
        test(17, () -> {
            refused(Sentences.traceless(), NONE, 2, 0, x -> x.lift(5), x -> x.lift(1000));
            refused(Sentences.busy(), NONE, 0, 2, x -> x.lift(-1000), x -> x.lift(1000));
        });
        test(18, () -> {
            refused(Sentences.traceless(), NONE, 2, 0, x -> x.scale(5, 1), x -> x.scale(1, 0));
            refused(Sentences.busy(), NONE, 0, 4, x -> x.scale(-1, 1), x -> x.scale(100, 1), x -> x.scale(1, 0), x -> x.scale(1, 100));
        });
        test(19, () -> {
            refused(Sentences.traceless(), NONE, 2, 0, x -> x.set(0, 1), x -> x.set(0, -1));
            refused(Sentences.busy(), NONE, 3, 2, x -> x.set(-1, 1), x -> x.set(10, 1), x -> x.set(10, -1), x -> x.set(0, -1),
                    x -> x.set(9, 1000));
        });
        test(20, () -> {
            refused(Sentences.traceless(), NONE, 2, 0, x -> x.noise(5), x -> x.noise(-1));
            refused(Sentences.busy(), NONE, 0, 2, x -> x.noise(-1), x -> x.noise(1000));
        });
        test(21, () -> {
            refused(Sentences.traceless(), NONE, 2, 0, x -> x.cut(0, 1), x -> x.cut(0, 0));
            refused(Sentences.busy(), NONE, 3, 4, x -> x.cut(-1, 1), x -> x.cut(10, 1), x -> x.cut(10, 0), x -> x.cut(0, 0),
                    x -> x.cut(0, 11), x -> x.cut(9, 2), x -> x.cut(1, HIGH));
        });
        test(22, () -> {
            refused(Sentences.traceless(), NONE, 0, 0, x -> x.ways(1, 1), x -> x.ways(0, 1));
            refused(Sentences.busy(), NONE, 0, 0, x -> x.ways(0, 1), x -> x.ways(41, 1), x -> x.ways(-1, 1), x -> x.ways(HIGH, 1));
        });
    }

    private static void logs() {
        never(23, NONE, x -> x.status(-1), x -> x.status(2), x -> x.status(LOW), x -> x.status(HIGH));
        test(24, () -> {
            refused(Sentences.traceless(), NONE, 0, 0, x -> x.undo());
            TracePeaks x = Sentences.busy();
            x.back();
            refused(x, NONE, 0, 0, y -> y.undo());
        });
        never(25, HIDDEN, x -> x.log(-1, 0), x -> x.log(2, 0), x -> x.log(0, -1), x -> x.log(0, 3), x -> x.log(LOW, 0), x -> x.log(HIGH, 0));
        test(41, () -> refused(Sentences.traceless(), NONE, 0, 0, x -> x.image()));
        test(42, () -> {
            refused(Sentences.traceless(), NONE, 0, 0, x -> x.back());
            TracePeaks x = Sentences.hills();
            x.clip(50);
            refused(x, NONE, 0, 0, y -> y.back());
        });
        never(43, HIDDEN, x -> x.held(-1), x -> x.held(5), x -> x.held(LOW), x -> x.held(HIGH));
    }

    private static void questions() {
        never(26, NONE, x -> x.noiseFor(0), x -> x.noiseFor(49), x -> x.noiseFor(LOW), x -> x.noiseFor(HIGH));
        never(27, NONE, x -> x.pieces(-1), x -> x.pieces(1000), x -> x.pieces(LOW), x -> x.pieces(HIGH));
        never(28, NONE, x -> x.room(-1), x -> x.room(2), x -> x.room(LOW), x -> x.room(HIGH));
        test(29, () -> {
            refused(Sentences.traceless(), NONE, 0, 0, x -> x.unlike());
            refused(Sentences.hills(), NONE, 0, 0, x -> x.unlike());
        });
        never(30, HIDDEN, x -> x.shift(-1), x -> x.shift(2), x -> x.shift(LOW), x -> x.shift(HIGH));
        test(31, () -> refused(Sentences.traceless(), NONE, 0, 0, x -> x.missed()));
        never(32, NONE, x -> x.would(-1, 0, 0), x -> x.would(10, 0, 0), x -> x.would(0, -1, 0), x -> x.would(0, 1000, 0),
                x -> x.would(0, 0, -1), x -> x.would(0, 0, 3), x -> x.would(LOW, LOW, LOW), x -> x.would(HIGH, HIGH, HIGH));
        test(33, () -> refused(Sentences.traceless(), NONE, 0, 0, x -> x.solo()));
        never(34, NONE, x -> x.tallest(-1), x -> x.tallest(3), x -> x.tallest(LOW), x -> x.tallest(HIGH));
        never(35, NONE, x -> x.change(-1), x -> x.change(2), x -> x.change(LOW), x -> x.change(HIGH));
        never(36, NONE, x -> x.spell(-1, 0), x -> x.spell(4, 0), x -> x.spell(0, -2), x -> x.spell(0, 10), x -> x.spell(LOW, LOW),
                x -> x.spell(HIGH, HIGH));
        never(40, HIDDEN, x -> x.most(-1), x -> x.most(8), x -> x.most(LOW), x -> x.most(HIGH));
    }

    private static void scripts() {
        never(37, HIDDEN, x -> x.step(-1, 0, 0), x -> x.step(1, 0, 0), x -> x.step(0, 1, 0), x -> x.step(0, -1, 0), x -> x.step(0, 0, 2),
                x -> x.step(0, 0, -1), x -> x.step(LOW, LOW, LOW), x -> x.step(HIGH, HIGH, HIGH));
        never(38, HIDDEN, x -> x.run(-1, 0), x -> x.run(1, 0), x -> x.run(0, -1), x -> x.run(0, 2), x -> x.run(LOW, 1), x -> x.run(HIGH, 1));
        never(39, NONE, x -> x.perform(-1), x -> x.perform(1), x -> x.perform(LOW), x -> x.perform(HIGH));
    }
}
