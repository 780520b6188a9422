import java.util.function.ToIntFunction;

/** Terms 3, what each act does, and promises 12 to 21. */
final class SentencesOfActs {
    private static final int NONE = Sentences.NONE;
    private static final int LOW = Sentences.LOW;
    private static final int HIGH = Sentences.HIGH;
    private static final String T3 = "Terms 3";

    private SentencesOfActs() {
    }

    static void tell() {
        smooth();
        median();
        flat();
        turn();
        clip();
        lift();
        scale();
        set();
        noise();
        cut();
        cutRefused();
    }

    private static void due(String call, long got, long want) {
        Checks.due(call, got, want);
    }

    private static TracePeaks hills() {
        return Sentences.hills();
    }

    /** What an act answers, and what the samples are then. */
    private static void actDue(String trace, ToIntFunction<TracePeaks> act, int answer, String samples) {
        TracePeaks x = Checks.traced("trace " + trace);
        due("the act on " + trace, act.applyAsInt(x), answer);
        Checks.samplesDue("the act on " + trace, x, samples);
        due("its LOG", x.held(3), 1);
        due("ACTS that can be UNDONE", x.held(4), 1);
    }

    private static void taken(String call, ToIntFunction<TracePeaks> act) {
        TracePeaks x = hills();
        due(call + " is refused", act.applyAsInt(x) == NONE ? 1 : 0, 0);
        due(call + " is in the LOG", x.held(3), 1);
        due(call + ": status", x.status(0) + x.status(1), 0);
    }

    private static void refused(String call, TracePeaks x, int places, int bounds, ToIntFunction<TracePeaks> act) {
        Sentences.changesNothing(x, places, bounds, () -> due(call, act.applyAsInt(x), NONE));
    }

    private static void noTrace(String call, ToIntFunction<TracePeaks> act) {
        refused(call + " of no TRACE", Sentences.traceless(), 1, 0, act);
    }

    private static void outOfBounds(String call, ToIntFunction<TracePeaks> act) {
        refused(call, Sentences.busy(), 0, 1, act);
    }

    private static void noPlace(String call, ToIntFunction<TracePeaks> act) {
        refused(call, Sentences.busy(), 1, 0, act);
    }

    private static void smooth() {
        Sentences.test(12, T3, "SMOOTH: each SAMPLE is a quarter (cut) of that ahead, two times it, that behind, added up", () -> {
            actDue("1 2 4 8 16", TracePeaks::smooth, 1, "1 2 4 9 14");
            actDue("0 0 3 0", TracePeaks::smooth, 1, "0 0 1 0");
            actDue("999 999 999", TracePeaks::smooth, 1, "999 999 999");
        });
        Sentences.test(12, T3, "(at an end itself stands for what is not there;", () -> {
            actDue("8 0", TracePeaks::smooth, 1, "6 2");
            actDue("0 8", TracePeaks::smooth, 1, "2 6");
            actDue("7", TracePeaks::smooth, 1, "7");
            actDue("8 0 0 0 12", TracePeaks::smooth, 2, "6 2 0 3 9");
            actDue("4" + " 0".repeat(46) + " 8", TracePeaks::smooth, 2, "3 1" + " 0".repeat(44) + " 2 6");
        });
        Sentences.test(12, T3, "not there; all as they were).", () -> actDue("0 8 0 0", TracePeaks::smooth, 1, "2 4 2 0"));
        Sentences.test(12, "SMOOTH: KEPT ones.", () -> {
            TracePeaks x = hills();
            due("smooth()", x.smooth(), 1);
            due("rule(5)", x.rule(5), 1);
            due("two are left", Checks.traced("trace 9 0 0 0 0 9").smooth(), 2);
        });
        Sentences.test(12, "NONE: no TRACE (STATUS 0).", () -> noTrace("smooth()", TracePeaks::smooth));
    }

    private static void median() {
        Sentences.test(13, T3, "MEDIAN: the middle one of these three likewise.", () -> {
            // Place 2 is in the middle of 1, 9, 3 as they were.
            actDue("5 1 9 3", TracePeaks::median, 1, "5 5 3 3");
            actDue("1 2 3", TracePeaks::median, 1, "1 2 3");
            actDue("3 1 2 0", TracePeaks::median, 1, "3 2 1 0");
            actDue("0 9", TracePeaks::median, 1, "0 9");
            actDue("4" + " 0".repeat(46) + " 8", TracePeaks::median, 2, "4" + " 0".repeat(46) + " 8");
            actDue("7", TracePeaks::median, 1, "7");
        });
        Sentences.test(13, "MEDIAN: KEPT ones.", () -> {
            TracePeaks x = hills();
            due("median()", x.median(), 1);
            due("rule(5)", x.rule(5), 1);
            due("two are left", Checks.traced("trace 9 0 0 9").median(), 2);
        });
        Sentences.test(13, "NONE: no TRACE (STATUS 0).", () -> noTrace("median()", TracePeaks::median));
    }

    private static void flat() {
        Sentences.test(14, T3, "FLAT: for each PEAK not KEPT", () -> {
            TracePeaks x = Checks.traced("trace 9 5 7 3;noise 1");
            due("KEPT", x.flat(), 0);
            Checks.samplesDue("KEPT", x, "9 5 7 3");
            x.noise(2);
            due("not KEPT", x.flat(), 1);
            Checks.samplesDue("not KEPT", x, "9 5 5 3");
            x.noise(999);
            due("PEAK 0 is KEPT", x.flat(), 0);
            due("of one SAMPLE", Checks.traced("trace 5;noise 9").flat(), 0);
        });
        Sentences.test(14, T3, "the SAMPLES around its place, one behind another, that are above its DEATH are its DEATH", () -> {
            TracePeaks x = Checks.traced("trace 9 5 6 7 6 0 6;noise 2");
            due("flat()", x.flat(), 3);
            Checks.samplesDue("one behind another", x, "9 5 5 5 5 0 6");
            TracePeaks y = Checks.traced("trace 6 7 6 5 9;noise 2");
            due("up to the start", y.flat(), 3);
            Checks.samplesDue("up to the start", y, "5 5 5 5 9");
            TracePeaks z = Checks.traced("trace 9 5 6 7 6;noise 2");
            due("up to the end", z.flat(), 3);
            Checks.samplesDue("up to the end", z, "9 5 5 5 5");
            TracePeaks full = Checks.traced("trace 9 5" + " 6".repeat(46) + ";noise 1");
            due("up to the end of 48", full.flat(), 46);
            Checks.samplesDue("up to the end of 48", full, "9" + " 5".repeat(47));
            TracePeaks like = Checks.traced("trace 9 5 7 5 6 0;noise 1");
            due("what is just DEATH ends it", like.flat(), 1);
            Checks.samplesDue("what is just DEATH ends it", like, "9 5 7 5 5 0");
            due("1 above", Checks.traced("trace 9 5 6 5;noise 1").flat(), 1);
            due("none above", Checks.traced("trace 3 3 5").flat(), 0);
        });
        Sentences.test(14, T3, "(all as they were;", () -> {
            TracePeaks x = Checks.traced("trace 90 10 40 30 50 20 60;noise 60");
            due("flat()", x.flat(), 5);
            Checks.samplesDue("flat()", x, "90 10 10 10 10 10 10");
            TracePeaks y = Checks.traced("trace 60 20 50 30 40 10 90;noise 60");
            due("turned", y.flat(), 5);
            Checks.samplesDue("turned", y, "10 10 10 10 10 10 90");
        });
        Sentences.test(14, T3, "of several the least).", () -> {
            // The 60 is KEPT; 40 lies in what is above the 50's DEATH, and above its own.
            TracePeaks x = Checks.traced("trace 90 10 40 30 50 20 60;noise 30");
            due("flat()", x.flat(), 3);
            Checks.samplesDue("flat()", x, "90 10 20 20 20 20 60");
            TracePeaks y = Checks.traced("trace 90 10 60 20 50 30 40;noise 30");
            due("turned", y.flat(), 3);
            Checks.samplesDue("turned", y, "90 10 60 20 20 20 20");
        });
        Sentences.test(14, "FLAT: how many SAMPLES are less than they were.", () -> {
            TracePeaks x = hills();
            due("flat()", x.flat(), 1);
            due("flat() once more", x.flat(), 0);
            Checks.samplesDue("flat()", x, "10 40 20 90 30 50 50 70 5 25");
        });
        Sentences.test(14, "NONE: no TRACE (STATUS 0).", () -> noTrace("flat()", TracePeaks::flat));
    }

    private static void turn() {
        Sentences.test(15, T3, "TURN: the last SAMPLE is the first.", () -> {
            actDue("1 2 3 4", TracePeaks::turn, 4, "4 3 2 1");
            actDue("1 2 3", TracePeaks::turn, 3, "3 2 1");
            actDue("7", TracePeaks::turn, 7, "7");
            TracePeaks full = Checks.traced("trace 5" + " 1".repeat(46) + " 6");
            due("48 SAMPLES", full.turn(), 6);
            due("the last then", full.sample(47), 5);
        });
        Sentences.test(15, "TURN: the first SAMPLE.", () -> {
            TracePeaks x = hills();
            due("turn()", x.turn(), 25);
            due("sample(0)", x.sample(0), 25);
            due("turn()", x.turn(), 10);
        });
        Sentences.test(15, "NONE: no TRACE (STATUS 0).", () -> noTrace("turn()", TracePeaks::turn));
    }

    private static void clip() {
        Sentences.test(16, T3, "CLIP n (0 .. 999):", () -> {
            taken("clip(0)", x -> x.clip(0));
            taken("clip(999)", x -> x.clip(999));
            outOfBounds("clip(-1)", x -> x.clip(-1));
            outOfBounds("clip(1000)", x -> x.clip(1000));
        });
        Sentences.test(16, T3, "what is above is n.", () -> {
            actDue("4 5 6 999", x -> x.clip(5), 2, "4 5 5 5");
            actDue("4 5 6", x -> x.clip(0), 3, "0 0 0");
            actDue("999", x -> x.clip(999), 0, "999");
            actDue("999", x -> x.clip(998), 1, "998");
            actDue("9" + " 9".repeat(47), x -> x.clip(8), 48, "8" + " 8".repeat(47));
        });
        Sentences.test(16, "CLIP: how many SAMPLES are less than they were.", () -> {
            TracePeaks x = hills();
            due("clip(50)", x.clip(50), 3);
            due("clip(50) once more", x.clip(50), 0);
            due("clip(0)", x.clip(0), 10);
            due("clip(0) once more", x.clip(0), 0);
        });
        Sentences.test(16, "NONE: no TRACE (STATUS 0),", () -> {
            noTrace("clip(1)", x -> x.clip(1));
            noTrace("clip(-1)", x -> x.clip(-1));
        });
        Sentences.test(16, "out of bounds (1).", () -> {
            for (int n : new int[] {-1, 1000, LOW, HIGH}) {
                outOfBounds("clip(" + n + ")", x -> x.clip(n));
            }
        });
    }

    private static void lift() {
        Sentences.test(17, T3, "LIFT n (-999 .. 999):", () -> {
            taken("lift(-999)", x -> x.lift(-999));
            taken("lift(999)", x -> x.lift(999));
            outOfBounds("lift(-1000)", x -> x.lift(-1000));
            outOfBounds("lift(1000)", x -> x.lift(1000));
        });
        Sentences.test(17, T3, "n is added to each, 0 to 999 are its bounds.", () -> {
            actDue("0 1 500 998 999", x -> x.lift(1), 1, "1 2 501 999 999");
            actDue("0 1 500 998 999", x -> x.lift(-1), 0, "0 0 499 997 998");
            actDue("0 999", x -> x.lift(999), 999, "999 999");
            actDue("0 999", x -> x.lift(-999), 0, "0 0");
            actDue("0 999", x -> x.lift(0), 0, "0 999");
            actDue("9" + " 9".repeat(47), x -> x.lift(1), 10, "10" + " 10".repeat(47));
        });
        Sentences.test(17, "LIFT: the least SAMPLE.", () -> {
            TracePeaks x = hills();
            due("lift(3)", x.lift(3), 8);
            due("lift(-7)", x.lift(-7), 1);
            due("lift(-20)", x.lift(-20), 0);
            due("the least is the first", Checks.traced("trace 1 2").lift(0), 1);
        });
        Sentences.test(17, "NONE: no TRACE (STATUS 0),", () -> {
            noTrace("lift(1)", x -> x.lift(1));
            noTrace("lift(1000)", x -> x.lift(1000));
        });
        Sentences.test(17, "out of bounds (1).", () -> {
            for (int n : new int[] {-1000, 1000, LOW, HIGH}) {
                outOfBounds("lift(" + n + ")", x -> x.lift(n));
            }
        });
    }

    private static void scale() {
        Sentences.test(18, T3, "SCALE n by d (0 .. 99, 1 .. 99):", () -> {
            taken("scale(0, 1)", x -> x.scale(0, 1));
            taken("scale(99, 1)", x -> x.scale(99, 1));
            taken("scale(0, 99)", x -> x.scale(0, 99));
            taken("scale(99, 99)", x -> x.scale(99, 99));
            outOfBounds("scale(-1, 1)", x -> x.scale(-1, 1));
            outOfBounds("scale(100, 1)", x -> x.scale(100, 1));
            outOfBounds("scale(1, 0)", x -> x.scale(1, 0));
            outOfBounds("scale(1, 100)", x -> x.scale(1, 100));
        });
        Sentences.test(18, T3, "n times it by d (cut), 999 at most.", () -> {
            actDue("7 10 999", x -> x.scale(3, 2), 999, "10 15 999");
            actDue("7 10 11", x -> x.scale(99, 1), 999, "693 990 999");
            actDue("7 10 999", x -> x.scale(0, 5), 0, "0 0 0");
            actDue("98 99 999", x -> x.scale(1, 99), 10, "0 1 10");
            actDue("7 10 999", x -> x.scale(99, 99), 999, "7 10 999");
            actDue("666 667", x -> x.scale(3, 2), 999, "999 999");
            actDue("665", x -> x.scale(3, 2), 997, "997");
            actDue("9" + " 9".repeat(47), x -> x.scale(2, 1), 18, "18" + " 18".repeat(47));
        });
        Sentences.test(18, "SCALE: the greatest SAMPLE.", () -> {
            TracePeaks x = hills();
            due("scale(3, 7)", x.scale(3, 7), 38);
            due("scale(99, 1)", x.scale(99, 1), 999);
            due("scale(0, 1)", x.scale(0, 1), 0);
        });
        Sentences.test(18, "NONE: no TRACE (STATUS 0),", () -> {
            noTrace("scale(1, 1)", x -> x.scale(1, 1));
            noTrace("scale(1, 0)", x -> x.scale(1, 0));
        });
        Sentences.test(18, "out of bounds (1).", () -> {
            int[][] bad = {{-1, 1}, {100, 1}, {1, 0}, {1, 100}, {1, -1}, {LOW, 1}, {HIGH, 1}, {1, LOW}, {1, HIGH}};
            for (int[] n : bad) {
                outOfBounds("scale(" + n[0] + ", " + n[1] + ")", x -> x.scale(n[0], n[1]));
            }
        });
    }

    private static void set() {
        Sentences.test(19, T3, "SET a place (of those that are),", () -> {
            actDue("4 5 6", x -> x.set(0, 9), 4, "9 5 6");
            actDue("4 5 6", x -> x.set(2, 9), 6, "4 5 9");
            noPlace("set(-1, 9)", x -> x.set(-1, 9));
            noPlace("set(10, 9)", x -> x.set(10, 9));
        });
        Sentences.test(19, T3, "(of those that are), n (0 .. 999).", () -> {
            actDue("4 5 6", x -> x.set(1, 0), 5, "4 0 6");
            actDue("4 5 6", x -> x.set(1, 999), 5, "4 999 6");
            outOfBounds("set(1, -1)", x -> x.set(1, -1));
            outOfBounds("set(1, 1000)", x -> x.set(1, 1000));
        });
        Sentences.test(19, "SET: what it was.", () -> {
            TracePeaks x = hills();
            due("set(3, 7)", x.set(3, 7), 90);
            due("set(3, 7) once more", x.set(3, 7), 7);
        });
        Sentences.test(19, "NONE: no such place (STATUS 0),", () -> {
            for (int place : new int[] {-1, 10, 47, 48, LOW, HIGH}) {
                noPlace("set(" + place + ", 5)", x -> x.set(place, 5));
                noPlace("set(" + place + ", 1000)", x -> x.set(place, 1000));
            }
            noTrace("set(0, 5)", x -> x.set(0, 5));
            noTrace("set(0, -1)", x -> x.set(0, -1));
            TracePeaks x = hills();
            x.cut(0, 4);
            due("set(4, 5) behind a CUT", x.set(4, 5), NONE);
            due("status(0)", x.status(0), 1);
        });
        Sentences.test(19, "out of bounds (1).", () -> {
            for (int n : new int[] {-1, 1000, LOW, HIGH}) {
                outOfBounds("set(9, " + n + ")", x -> x.set(9, n));
            }
        });
    }

    private static void noise() {
        Sentences.test(20, T3, "NOISE n (0 .. 999).", () -> {
            taken("noise(0)", x -> x.noise(0));
            taken("noise(999)", x -> x.noise(999));
            outOfBounds("noise(-1)", x -> x.noise(-1));
            outOfBounds("noise(1000)", x -> x.noise(1000));
        });
        Sentences.test(20, "NOISE: what it was.", () -> {
            TracePeaks x = hills();
            due("noise(20)", x.noise(20), 15);
            due("KEPT then", x.rule(5), 2);
            due("noise(999)", x.noise(999), 20);
            due("KEPT then", x.rule(5), 1);
            due("noise(0)", x.noise(0), 999);
            due("KEPT then", x.rule(5), 5);
            due("rule(1)", x.rule(1), 0);
        });
        Sentences.test(20, "NONE: no TRACE (STATUS 0),", () -> {
            noTrace("noise(1)", x -> x.noise(1));
            noTrace("noise(-1)", x -> x.noise(-1));
        });
        Sentences.test(20, "out of bounds (1).", () -> {
            for (int n : new int[] {-1, 1000, LOW, HIGH}) {
                outOfBounds("noise(" + n + ")", x -> x.noise(n));
            }
        });
    }

    private static void cut() {
        Sentences.test(21, T3, "CUT from a place on n SAMPLES (all of these must be there,", () -> {
            actDue("4 5 6", x -> x.cut(0, 3), 0, "4 5 6");
            actDue("4 5 6", x -> x.cut(2, 1), 2, "6");
            actDue("4 5 6", x -> x.cut(1, 2), 1, "5 6");
            outOfBounds("cut(0, 11)", x -> x.cut(0, 11));
            outOfBounds("cut(9, 2)", x -> x.cut(9, 2));
            outOfBounds("cut(5, 6)", x -> x.cut(5, 6));
            noPlace("cut(10, 1)", x -> x.cut(10, 1));
        });
        Sentences.test(21, T3, "n 1 at least):", () -> {
            actDue("4 5 6", x -> x.cut(1, 1), 2, "5");
            outOfBounds("cut(1, 0)", x -> x.cut(1, 0));
        });
        Sentences.test(21, T3, "they alone are left.", () -> {
            TracePeaks x = hills();
            due("cut(2, 5)", x.cut(2, 5), 5);
            Checks.samplesDue("cut(2, 5)", x, "20 90 30 60 50");
            due("held(0)", x.held(0), 5);
            due("the least SAMPLE is of these", x.rule(6), 20);
            due("the place of PEAK 0", Checks.peak(x, 0, 0), 1);
            due("sample(5)", x.sample(5), NONE);
            due("LINES stay", x.line(1, 0), 8);
            due("NOISE stays", x.rule(1), 15);
            due("lift(0)", x.lift(0), 20);
            TracePeaks wide = Checks.traced("trace 5 8 8 8 8;noise 2");
            due("cut(0, 3)", wide.cut(0, 3), 2);
            due("WIDTH up to the end that is now", wide.basin(0, 3), 2);
            due("AREA up to the end that is now", wide.basin(0, 2), 6);
            due("clip(6) of these", wide.clip(6), 2);
            due("the most of these", wide.cut(0, 4), NONE);
            due("smooth() at the end that is now", x.smooth() + x.sample(4), 1 + (60 + 50 + 50 + 50) / 4);
        });
        Sentences.test(21, "CUT: how many SAMPLES are gone.", () -> {
            TracePeaks x = hills();
            due("cut(0, 10)", x.cut(0, 10), 0);
            due("cut(0, 9)", x.cut(0, 9), 1);
            due("cut(8, 1)", x.cut(8, 1), 8);
            due("cut(0, 1)", x.cut(0, 1), 0);
            due("of 48", Checks.traced("trace" + " 1".repeat(48)).cut(47, 1), 47);
        });
    }

    private static void cutRefused() {
        Sentences.test(21, "NONE: no such place (STATUS 0),", () -> {
            for (int place : new int[] {-1, 10, 48, LOW, HIGH}) {
                noPlace("cut(" + place + ", 1)", x -> x.cut(place, 1));
                noPlace("cut(" + place + ", 0)", x -> x.cut(place, 0));
                noPlace("cut(" + place + ", HIGH)", x -> x.cut(place, HIGH));
            }
            noTrace("cut(0, 1)", x -> x.cut(0, 1));
            noTrace("cut(0, 0)", x -> x.cut(0, 0));
        });
        Sentences.test(21, "n below 1,", () -> {
            for (int n : new int[] {0, -1, LOW}) {
                outOfBounds("cut(0, " + n + ")", x -> x.cut(0, n));
                outOfBounds("cut(9, " + n + ")", x -> x.cut(9, n));
            }
        });
        Sentences.test(21, "beyond the end (1).", () -> {
            int[][] bad = {{0, 11}, {9, 2}, {4, 7}, {1, HIGH}, {9, HIGH}, {9, HIGH - 8}};
            for (int[] n : bad) {
                outOfBounds("cut(" + n[0] + ", " + n[1] + ")", x -> x.cut(n[0], n[1]));
            }
        });
    }
}
