import java.math.BigInteger;

/** Terms 3 (undone acts, status, log), Terms 5 (ways, images), promises 22 to 25 and 41 to 43. */
final class SentencesOfLogs {
    private static final int NONE = Sentences.NONE;
    private static final int HIDDEN = Sentences.HIDDEN;
    private static final int LOW = Sentences.LOW;
    private static final int HIGH = Sentences.HIGH;
    private static final String T3 = "Terms 3";
    private static final String T5 = "Terms 5";
    private static final String END = "Terms, at their end";

    private SentencesOfLogs() {
    }

    static void tell() {
        calls();
        acts();
        statusOfActs();
        logOfActs();
        drawnActs();
        draws();
        images();
        ways();
        status();
        undo();
        log();
        image();
        held();
    }

    private static void due(String call, long got, long want) {
        Checks.due(call, got, want);
    }

    private static TracePeaks hills() {
        return Sentences.hills();
    }

    private static void calls() {
        Sentences.test(1, "What it is", "An object is used for at most 512 calls after it has been made; what later calls answer is free.", () -> {
            TracePeaks x = Checks.traced("trace 1 2 3 4 5");
            // Four calls up to here: end, feed, text, and what Checks asks of the tape.
            for (int i = 0; i < 504; i++) {
                due("ways(40, " + i + ")", x.ways(40, i) == NONE ? 1 : 0, 0);
            }
            due("held(0)", x.held(0), 5);
            due("held(3)", x.held(3), 60);
            due("held(4)", x.held(4), 40);
            due("undo()", x.undo(), 39);
            TracePeaks refused = new TracePeaks();
            for (int i = 0; i < 511; i++) {
                due("set(0, 0)", refused.set(0, 0), NONE);
            }
            due("status(0), the 512th call", refused.status(0), 511);
        });
        Sentences.test(43, END, "The constants: `NONE = -1`: None; refused. `HIDDEN = -1000000`: Not told.", () -> {
            due("NONE", TracePeaks.NONE, -1);
            due("HIDDEN", TracePeaks.HIDDEN, -1000000);
        });
    }

    private static void acts() {
        Sentences.test(24, T3, "All these are ACTS, whether they change a SAMPLE or not:", () -> {
            TracePeaks x = Checks.traced("trace 5 5 5;noise 3");
            int answers = x.smooth() + x.median() + x.flat() + x.turn() + x.clip(999) + x.lift(0) + x.scale(1, 1)
                    + x.set(0, 5) + x.noise(3) + x.cut(0, 3);
            due("all answers", answers, 1 + 1 + 0 + 5 + 0 + 5 + 5 + 5 + 3 + 0);
            Checks.samplesDue("no change", x, "5 5 5");
            due("the LOG", x.held(3), 10);
            due("ACTS that can be UNDONE", x.held(4), 10);
            for (int i = 0; i < 10; i++) {
                due("the sort of the one " + i + " ahead", x.log(i, 0), 9 - i);
            }
            due("undone", Sentences.undoAll(x), 10);
        });
        Sentences.test(24, T3, "the latest 40 can be UNDONE one by one", () -> {
            TracePeaks x = hills();
            for (int i = 1; i <= 40; i++) {
                x.set(0, 100 + i);
                due("after " + i + " ACTS", x.held(4), i);
            }
            x.set(0, 141);
            due("after 41 ACTS", x.held(4), 40);
            for (int i = 39; i >= 0; i--) {
                due("undo()", x.undo(), i);
                due("sample(0)", x.sample(0), 101 + i);
            }
            due("the first of 41", x.undo(), NONE);
            due("sample(0)", x.sample(0), 101);
        });
        Sentences.test(24, T3, "(the LOG, too).", () -> {
            TracePeaks x = hills();
            x.noise(3);
            x.clip(60);
            x.undo();
            due("held(3)", x.held(3), 1);
            due("log(0, 0)", x.log(0, 0), 8);
            due("log(1, 0)", x.log(1, 0), HIDDEN);
            x.undo();
            due("held(3)", x.held(3), 0);
            due("log(0, 0)", x.log(0, 0), HIDDEN);
            x.ways(40, 1);
            x.ways(40, 1);
            x.set(0, 1);
            x.undo();
            due("of 80 ACTS that are left the latest 60", x.held(3), 60);
            due("undo() of 39 more", Sentences.undoAll(x), 39);
            due("of 41 ACTS that are left all", x.held(3), 41);
        });
    }

    private static void statusOfActs() {
        Sentences.test(23, T3, "STATUS: how many ACTS were refused as there was no such place, no TRACE (0),", () -> {
            TracePeaks x = hills();
            x.set(10, 5);
            due("status(0)", x.status(0), 1);
            x.cut(-1, 5);
            due("status(0)", x.status(0), 2);
            due("status(1)", x.status(1), 0);
            TracePeaks none = new TracePeaks();
            int answers = none.smooth() + none.median() + none.flat() + none.turn() + none.clip(1) + none.lift(1)
                    + none.scale(1, 1) + none.set(0, 1) + none.noise(1) + none.cut(0, 1);
            due("all answers", answers, 10 * NONE);
            due("no TRACE: status(0)", none.status(0), 10);
            due("no TRACE: status(1)", none.status(1), 0);
        });
        Sentences.test(23, T3, "out of bounds (1);", () -> {
            TracePeaks x = hills();
            int answers = x.clip(-1) + x.lift(1000) + x.scale(1, 0) + x.set(0, -1) + x.noise(1000) + x.cut(0, 0) + x.cut(9, 2);
            due("all answers", answers, 7 * NONE);
            due("status(1)", x.status(1), 7);
            due("status(0)", x.status(0), 0);
        });
        Sentences.test(23, T3, "of both the first;", () -> {
            TracePeaks x = hills();
            int answers = x.set(10, 1000) + x.cut(10, 0) + x.cut(-1, HIGH);
            due("all answers", answers, 3 * NONE);
            due("no such place: status(0)", x.status(0), 3);
            due("no such place: status(1)", x.status(1), 0);
            TracePeaks none = new TracePeaks();
            answers = none.clip(-1) + none.lift(1000) + none.scale(1, 0) + none.set(0, -1) + none.noise(1000) + none.cut(0, 0);
            due("all answers", answers, 6 * NONE);
            due("no TRACE: status(0)", none.status(0), 6);
            due("no TRACE: status(1)", none.status(1), 0);
        });
        Sentences.test(23, T3, "not UNDONE.", () -> {
            TracePeaks x = hills();
            x.clip(5);
            x.clip(-1);
            x.set(10, 1);
            x.image();
            x.undo();
            due("status(0)", x.status(0), 1);
            due("status(1)", x.status(1), 1);
            x.back();
            due("status(0) behind back()", x.status(0), 1);
            due("status(1) behind back()", x.status(1), 1);
        });
    }

    private static void logOfActs() {
        Sentences.test(25, T3, "The LOG: of each ACT its sort (0 SMOOTH, 1 MEDIAN, 2 FLAT, 3 TURN, 4 CLIP, 5 LIFT, 6 SCALE, 7 SET, "
                + "8 NOISE, 9 CUT),", () -> {
            TracePeaks x = hills();
            x.smooth();
            due("SMOOTH", x.log(0, 0), 0);
            x.median();
            due("MEDIAN", x.log(0, 0), 1);
            x.flat();
            due("FLAT", x.log(0, 0), 2);
            x.turn();
            due("TURN", x.log(0, 0), 3);
            x.clip(5);
            due("CLIP", x.log(0, 0), 4);
            x.lift(5);
            due("LIFT", x.log(0, 0), 5);
            x.scale(5, 6);
            due("SCALE", x.log(0, 0), 6);
            x.set(5, 6);
            due("SET", x.log(0, 0), 7);
            x.noise(5);
            due("NOISE", x.log(0, 0), 8);
            x.cut(1, 6);
            due("CUT", x.log(0, 0), 9);
        });
        Sentences.test(25, T3, "its first number (0 of none),", () -> {
            TracePeaks x = hills();
            int answers = x.clip(80) + x.lift(-3) + x.scale(2, 1) + x.set(9, 4) + x.noise(999) + x.cut(2, 5);
            due("all answers", answers, 1 + 2 + 154 + 44 + 15 + 5);
            int[] want = {2, 999, 9, 2, -3, 80};
            for (int i = 0; i < want.length; i++) {
                due("log(" + i + ", 1)", x.log(i, 1), want[i]);
            }
            x.smooth();
            due("of SMOOTH", x.log(0, 1), 0);
            x.median();
            due("of MEDIAN", x.log(0, 1), 0);
            x.flat();
            due("of FLAT", x.log(0, 1), 0);
            x.turn();
            due("of TURN", x.log(0, 1), 0);
        });
        Sentences.test(25, T3, "how many are KEPT then:", () -> {
            TracePeaks x = hills();
            x.noise(0);
            x.noise(20);
            x.noise(999);
            x.noise(19);
            x.cut(0, 3);
            int[] want = {1, 4, 1, 2, 5};
            for (int i = 0; i < want.length; i++) {
                due("log(" + i + ", 2)", x.log(i, 2), want[i]);
            }
        });
        Sentences.test(25, T3, "the latest 60.", () -> {
            TracePeaks x = hills();
            for (int i = 1; i <= 60; i++) {
                x.set(0, i);
                x.set(1, i);
                x.undo();
            }
            due("held(3) after 60", x.held(3), 60);
            x.clip(1);
            due("held(3) after 61", x.held(3), 60);
            due("log(0, 0)", x.log(0, 0), 4);
            due("log(59, 0)", x.log(59, 0), 7);
            due("log(60, 0)", x.log(60, 0), HIDDEN);
            for (int i = 0; i < 70; i++) {
                x.lift(-i);
            }
            for (int i = 0; i < 60; i++) {
                due("log(" + i + ", 1)", x.log(i, 1), i - 69);
            }
        });
    }

    // WAYS.

    /** Of a seed the sorts and first numbers of the log, and the samples, on 10 20 30 40 50. */
    private static void waysDue(long seed, int[] log, String samples) {
        TracePeaks x = Checks.traced("trace 10 20 30 40 50");
        int n = log.length / 2;
        due("ways(" + n + ", " + seed + ")", x.ways(n, seed), x.rule(5));
        for (int i = 0; i < log.length; i++) {
            due("ways(" + n + ", " + seed + "): number " + i + " of its LOG", x.log(n - 1 - i / 2, i % 2), log[i]);
        }
        Checks.samplesDue("ways(" + n + ", " + seed + ")", x, samples);
    }

    private static void drawnActs() {
        Sentences.test(22, T5, "WAYS by a seed: n (1 .. 40) times:", () -> {
            for (int n : new int[] {1, 2, 39, 40}) {
                TracePeaks x = hills();
                due("ways(" + n + ", 7)", x.ways(n, 7), x.rule(5));
                due("its ACTS", x.held(4), n);
                due("its LOG", x.held(3), n);
            }
            due("ways(0, 7)", hills().ways(0, 7), NONE);
            due("ways(41, 7)", hills().ways(41, 7), NONE);
        });
        Sentences.test(22, T5, "a draw of 8: 0 SMOOTH, 1 MEDIAN, 2 FLAT,", () -> {
            waysDue(5, new int[] {0, 0}, "12 20 30 40 47");
            waysDue(10, new int[] {1, 0}, "10 20 30 40 50");
            waysDue(4, new int[] {2, 0}, "10 20 30 40 50");
            TracePeaks x = Checks.traced("trace 10 30 20 40 50;noise 10");
            due("MEDIAN", x.ways(1, 10), 1);
            Checks.samplesDue("MEDIAN", x, "10 20 30 40 50");
            TracePeaks y = Checks.traced("trace 10 30 20 40 50;noise 10");
            due("FLAT", y.ways(1, 4), 1);
            Checks.samplesDue("FLAT", y, "10 20 20 40 50");
        });
        Sentences.test(22, T5, "3 to 5: a draw of SAMPLES, of 1000: SET;", () -> {
            waysDue(3, new int[] {7, 3}, "10 20 30 715 50");
            waysDue(2, new int[] {7, 2}, "10 20 456 40 50");
            waysDue(13, new int[] {7, 1}, "10 662 30 40 50");
            TracePeaks one = Checks.traced("trace 5");
            due("of one SAMPLE", one.ways(1, 3), 1);
            due("it is drawn yet", one.sample(0), 715);
        });
        Sentences.test(22, T5, "6: a draw of 200: NOISE;", () -> {
            waysDue(1, new int[] {8, 153}, "10 20 30 40 50");
            TracePeaks x = hills();
            due("KEPT then", x.ways(1, 1), 1);
            due("NOISE then", x.rule(1), 153);
        });
        Sentences.test(22, T5, "7: a draw of 100, of 9 and 1: SCALE by these (the first one less than 100).", () -> {
            waysDue(0, new int[] {6, 24}, "30 60 90 120 150");
            waysDue(-1, new int[] {0, 0, 6, 77}, "102 171 256 342 402");
            waysDue(Long.MAX_VALUE, new int[] {0, 0, 6, 53}, "636 999 999 999 999");
        });
        Sentences.test(22, T5, "Each is an ACT.", () -> {
            TracePeaks x = hills();
            due("ways(40, 3)", x.ways(40, 3), x.rule(5));
            due("ACTS that can be UNDONE", x.held(4), 40);
            due("the LOG", x.held(3), 40);
            due("undone", Sentences.undoAll(x), 40);
            Checks.samplesDue("all undone", x, Sentences.HILL_SAMPLES);
            due("NOISE", x.rule(1), 15);
        });
    }

    private static BigInteger drawn;

    private static int draw(int j) {
        BigInteger round = BigInteger.ONE.shiftLeft(64);
        drawn = drawn.multiply(new BigInteger("6364136223846793005")).add(new BigInteger("1442695040888963407")).mod(round);
        return drawn.shiftRight(33).mod(BigInteger.valueOf(j)).intValue();
    }

    /** What WAYS draws, by its own arithmetic, asked act by act. */
    static void byHand(TracePeaks y, int n, long seed) {
        drawn = BigInteger.valueOf(seed).mod(BigInteger.ONE.shiftLeft(64));
        for (int i = 0; i < n; i++) {
            int sort = draw(8);
            if (sort == 0) {
                y.smooth();
            } else if (sort == 1) {
                y.median();
            } else if (sort == 2) {
                y.flat();
            } else if (sort == 6) {
                y.noise(draw(200));
            } else if (sort == 7) {
                int times = draw(100);
                y.scale(times, draw(9) + 1);
            } else {
                int place = draw(y.held(0));
                y.set(place, draw(1000));
            }
        }
    }

    private static void draws() {
        Sentences.test(22, T5, "x, at first the seed, becomes x times 6364136223846793005 and 1442695040888963407 (64 bits, going round);", () -> {
            waysDue(0, new int[] {6, 24, 7, 0}, "891 60 90 120 150");
            waysDue(1, new int[] {8, 153, 7, 0, 7, 0}, "902 20 30 40 50");
            waysDue(Long.MIN_VALUE, new int[] {6, 48, 7, 4}, "68 137 205 274 67");
            waysDue(Long.MAX_VALUE, new int[] {0, 0, 6, 53, 0, 0, 7, 1}, "726 223 999 999 999");
            waysDue(42, new int[] {8, 26, 2, 0, 6, 94}, "117 235 352 470 587");
        });
        Sentences.test(22, T5, "a draw of j: (x shifted right by 33, without sign) modulo j.", () -> {
            for (long seed : new long[] {7, -7, 99, Long.MIN_VALUE, Long.MAX_VALUE, -123456789012345L}) {
                TracePeaks x = hills();
                TracePeaks y = hills();
                due("ways(40, " + seed + ")", x.ways(40, seed), x.rule(5));
                byHand(y, 40, seed);
                Checks.samplesDue("ways(40, " + seed + ")", x, Checks.samples(y));
                due("NOISE", x.rule(1), y.rule(1));
                for (int i = 0; i < 40; i++) {
                    due("log(" + i + ", 0)", x.log(i, 0), y.log(i, 0));
                    due("log(" + i + ", 1)", x.log(i, 1), y.log(i, 1));
                    due("log(" + i + ", 2)", x.log(i, 2), y.log(i, 2));
                }
            }
        });
    }

    private static void images() {
        Sentences.test(41, T5, "An IMAGE keeps all that ACTS change;", () -> {
            TracePeaks x = hills();
            x.turn();
            x.image();
            x.noise(1);
            x.cut(1, 2);
            x.set(0, 77);
            due("back()", x.back(), 4);
            Checks.samplesDue("back()", x, "25 5 70 50 60 30 90 20 40 10");
            due("NOISE", x.rule(1), 15);
            due("the LOG", x.held(3), 1);
            due("log(0, 0)", x.log(0, 0), 3);
            due("log(0, 2)", x.log(0, 2), 4);
            x.noise(20);
            x.image();
            x.undo();
            x.set(3, 999);
            due("back()", x.back(), 2);
            due("the sort that was UNDONE", x.log(0, 0), 8);
            due("its number", x.log(0, 1), 20);
            due("how many were KEPT then", x.log(0, 2), 2);
            due("the one ahead", x.log(1, 0), 3);
        });
        Sentences.test(42, T5, "BACK: it is so again", () -> {
            TracePeaks x = hills();
            x.image();
            for (int i = 0; i < 3; i++) {
                x.set(3, i);
                due("back()", x.back(), 4);
                Checks.samplesDue("back() number " + i, x, Sentences.HILL_SAMPLES);
            }
            due("back() without an ACT", x.back(), 4);
            due("SCRIPTS are none of it", Checks.script(x, "turn"), 0);
            x.back();
            due("SCRIPTS stay", x.held(1), 1);
        });
        Sentences.test(42, T5, "(no ACT can be UNDONE then).", () -> {
            TracePeaks x = hills();
            x.turn();
            x.image();
            x.clip(5);
            due("back()", x.back(), 4);
            due("held(4)", x.held(4), 0);
            due("undo()", x.undo(), NONE);
            due("sample(0)", x.sample(0), 25);
            x.clip(5);
            due("a later ACT can", x.undo(), 0);
            due("but none ahead of it", x.undo(), NONE);
            TracePeaks stays = hills();
            stays.turn();
            stays.image();
            due("behind an IMAGE alone they can", stays.undo(), 0);
        });
    }

    private static void ways() {
        Sentences.test(22, "WAYS: KEPT ones.", () -> {
            TracePeaks x = Checks.traced("trace 9 0 8 0 7");
            due("behind a SMOOTH", x.ways(1, 5), 2);
            due("rule(5)", x.rule(5), 2);
            due("behind a NOISE", x.ways(1, 1), 1);
        });
        Sentences.test(22, "NONE: no TRACE,", () -> {
            TracePeaks x = Sentences.traceless();
            Sentences.changesNothing(x, 0, 0, () -> due("ways(1, 1)", x.ways(1, 1), NONE));
        });
        Sentences.test(22, "out of bounds.", () -> {
            for (int n : new int[] {0, 41, -1, LOW, HIGH}) {
                TracePeaks x = Sentences.busy();
                Sentences.changesNothing(x, 0, 0, () -> due("ways(" + n + ", 1)", x.ways(n, 1), NONE));
            }
        });
    }

    private static void status() {
        Sentences.test(23, "STATUS.", () -> {
            TracePeaks x = hills();
            due("status(0)", x.status(0), 0);
            due("status(1)", x.status(1), 0);
            x.set(10, 1);
            x.clip(-1);
            x.clip(1000);
            due("status(0)", x.status(0), 1);
            due("status(1)", x.status(1), 2);
        });
        Sentences.test(23, "NONE: no such what.", () -> {
            TracePeaks x = hills();
            for (int what : new int[] {-1, 2, LOW, HIGH}) {
                due("status(" + what + ")", x.status(what), NONE);
            }
        });
    }

    private static void undo() {
        Sentences.test(24, "The latest ACT is UNDONE: how many still can be.", () -> {
            TracePeaks x = hills();
            x.noise(3);
            x.cut(3, 2);
            x.set(0, 8);
            due("of SET", x.undo(), 2);
            Checks.samplesDue("of SET", x, "90 30");
            due("of CUT", x.undo(), 1);
            Checks.samplesDue("of CUT", x, Sentences.HILL_SAMPLES);
            due("KEPT then", x.rule(5), 5);
            due("of NOISE", x.undo(), 0);
            due("NOISE then", x.rule(1), 15);
            due("KEPT then", x.rule(5), 4);
            x.smooth();
            x.flat();
            x.turn();
            due("of TURN", x.undo(), 2);
            due("sample(0)", x.sample(0), 17);
        });
        Sentences.test(24, "NONE: none.", () -> {
            TracePeaks x = hills();
            due("no ACT yet", x.undo(), NONE);
            x.clip(-1);
            due("a refused one is none", x.undo(), NONE);
            x.clip(5);
            due("one", x.undo(), 0);
            due("no more", x.undo(), NONE);
            Checks.samplesDue("as it was", x, Sentences.HILL_SAMPLES);
            due("no TRACE", new TracePeaks().undo(), NONE);
        });
    }

    private static void log() {
        Sentences.test(25, "The LOG, the latest (i 0), the one ahead of it (1) ..: 0 sort, 1 number, 2 KEPT ones.", () -> {
            TracePeaks x = hills();
            x.noise(19);
            x.set(1, 0);
            x.turn();
            int[] want = {3, 0, 3, 7, 1, 3, 8, 19, 4};
            for (int i = 0; i < 9; i++) {
                due("log(" + i / 3 + ", " + i % 3 + ")", x.log(i / 3, i % 3), want[i]);
            }
        });
        Sentences.test(25, "HIDDEN: no such ones.", () -> {
            TracePeaks x = hills();
            due("log(0, 0) of none", x.log(0, 0), HIDDEN);
            x.turn();
            for (int i : new int[] {-1, 1, 59, 60, LOW, HIGH}) {
                due("log(" + i + ", 0)", x.log(i, 0), HIDDEN);
            }
            for (int what : new int[] {-1, 3, LOW, HIGH}) {
                due("log(0, " + what + ")", x.log(0, what), HIDDEN);
            }
            due("log(0, 0) of no TRACE", new TracePeaks().log(0, 0), HIDDEN);
        });
    }

    private static void image() {
        Sentences.test(41, "An IMAGE (instead of the one ahead): KEPT ones.", () -> {
            TracePeaks x = hills();
            due("image()", x.image(), 4);
            due("it is no ACT", x.held(3) + x.held(4), 0);
            x.noise(20);
            due("image()", x.image(), 2);
            x.noise(0);
            due("back()", x.back(), 2);
            due("NOISE", x.rule(1), 20);
        });
        Sentences.test(41, "NONE: no TRACE.", () -> {
            TracePeaks x = Sentences.traceless();
            Sentences.changesNothing(x, 0, 0, () -> due("image()", x.image(), NONE));
            due("back()", x.back(), NONE);
        });
        Sentences.test(42, "BACK: KEPT ones.", () -> {
            TracePeaks x = hills();
            x.image();
            x.noise(999);
            due("back()", x.back(), 4);
            due("rule(5)", x.rule(5), 4);
        });
        Sentences.test(42, "NONE: no IMAGE of this TRACE.", () -> {
            TracePeaks x = hills();
            x.clip(5);
            due("no IMAGE", x.back(), NONE);
            due("undo() yet", x.undo(), 0);
            x.image();
            due("another TRACE", Checks.write(x, "trace 1 2").text(0), 2);
            due("no IMAGE of it", x.back(), NONE);
            Checks.samplesDue("it stays", x, "1 2");
            due("no TRACE", new TracePeaks().back(), NONE);
        });
    }

    private static void held() {
        Sentences.test(43, "0 SAMPLES, 1 SCRIPTS, 2 bytes of the TAPE, 3 how long the LOG is, 4 ACTS that can be UNDONE.", () -> {
            TracePeaks x = hills();
            Checks.script(x, "turn");
            Checks.script(x, "flat");
            x.turn();
            x.image();
            x.back();
            x.turn();
            x.turn();
            x.undo();
            Checks.write(x, "abc");
            int[] want = {10, 2, 3, 2, 1};
            for (int i = 0; i < 5; i++) {
                due("held(" + i + ")", x.held(i), want[i]);
                due("held(" + i + ") of a new object", new TracePeaks().held(i), 0);
            }
        });
        Sentences.test(43, "HIDDEN for others.", () -> {
            for (int what : new int[] {-1, 5, LOW, HIGH}) {
                due("held(" + what + ")", hills().held(what), HIDDEN);
                due("held(" + what + ") of a new object", new TracePeaks().held(what), HIDDEN);
            }
        });
    }
}
