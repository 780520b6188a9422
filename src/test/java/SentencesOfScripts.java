/** What Terms 4 tells of scripts, and promises 37 to 39. */
final class SentencesOfScripts {
    private static final int NONE = Sentences.NONE;
    private static final int HIDDEN = Sentences.HIDDEN;
    private static final int LOW = Sentences.LOW;
    private static final int HIGH = Sentences.HIGH;
    private static final String T4 = "Terms 4";

    private SentencesOfScripts() {
    }

    static void tell() {
        run();
        perform();
        step();
        runs();
        performs();
    }

    private static void due(String call, long got, long want) {
        Checks.due(call, got, want);
    }

    /** The hills with one script. */
    private static TracePeaks with(String script) {
        TracePeaks x = Sentences.hills();
        due("the SCRIPT " + script, Checks.script(x, script), 0);
        return x;
    }

    private static void run() {
        Sentences.test(38, T4, "RUN of a SCRIPT: behind how many STEPS the first is that can't be;", () -> {
            String[] first = {"clip -1", "clip -999", "lift -1", "noise -1", "scale -1 1", "scale 100 1", "scale 1 0", "scale 1 100",
                "scale 1 -1", "set -1 0", "set 10 0", "set 0 -1", "cut -1 1", "cut 10 1", "cut 0 0", "cut 0 11", "cut 9 2", "cut 5 -1"};
            for (String step : first) {
                // Any LIFT that a SCRIPT can tell is in bounds.
                int want = step.equals("lift -1") ? NONE : 0;
                due("run(0, 0) of " + step, with(step).run(0, 0), want);
                due("run(0, 0) of turn;turn;" + step, with("turn;turn;" + step).run(0, 0), want == NONE ? NONE : 2);
            }
            due("the place is gone by then", with("cut 0 5;set 5 0").run(0, 0), 1);
            due("the place is there by then", with("cut 0 5;set 4 0").run(0, 0), NONE);
            due("of two the first", with("turn;clip -1;flat;clip -1").run(0, 0), 1);
            due("the 12th", with("turn;".repeat(11) + "clip -1").run(0, 0), 11);
            due("none of 12", with("turn;".repeat(11) + "turn").run(0, 0), NONE);
            String atBounds = "clip 0;clip 999;lift 999;lift -999;scale 0 1;scale 99 99;set 0 0;set 9 999;noise 0;noise 999;cut 0 10;cut 9 1";
            due("all at their bounds", with(atBounds).run(0, 0), NONE);
        });
        Sentences.test(38, T4, "how many are KEPT behind these.", () -> {
            due("behind none", with("clip -1;noise 0").run(0, 1), 4);
            due("behind one", with("noise 0;clip -1;noise 999").run(0, 1), 5);
            due("behind all", with("noise 0;noise 20").run(0, 1), 2);
            due("flat by what is KEPT then", with("noise 20;flat;noise 0").run(0, 1), 2);
            due("behind a CUT", with("noise 0;cut 0 4").run(0, 1), 2);
        });
    }

    private static void perform() {
        Sentences.test(39, T4, "DO: its STEPS as ACTS, up to there", () -> {
            TracePeaks x = with("noise 20;cut 3 5;set 5 0;turn");
            due("perform(0)", x.perform(0), 2);
            Checks.samplesDue("perform(0)", x, "90 30 60 50 70");
            due("the LOG", x.held(3), 2);
            due("the latest: sort", x.log(0, 0), 9);
            due("the latest: number", x.log(0, 1), 3);
            due("the one ahead: sort", x.log(1, 0), 8);
            due("the one ahead: KEPT", x.log(1, 2), 2);
            due("undo()", x.undo(), 1);
            due("undo()", x.undo(), 0);
            Checks.samplesDue("undone", x, Sentences.HILL_SAMPLES);
            TracePeaks plain = with("clip 50;smooth");
            due("perform(0)", plain.perform(0), 2);
            due("a STEP without a number", plain.log(0, 1), 0);
            due("a STEP with one", plain.log(1, 1), 50);
            TracePeaks flat = with("noise 20;flat;noise 0");
            due("perform(0)", flat.perform(0), 3);
            due("as it was told", flat.rule(5), 2);
        });
        Sentences.test(39, T4, "(no STATUS).", () -> {
            TracePeaks x = with("set 10 0;turn");
            due("no such place", x.perform(0), 0);
            due("status(0)", x.status(0), 0);
            TracePeaks y = with("turn;clip -1");
            due("out of bounds", y.perform(0), 1);
            due("status(1)", y.status(1), 0);
            due("status(0)", y.status(0), 0);
        });
    }

    private static void step() {
        Sentences.test(37, "A STEP of a SCRIPT: 0 what (as the LOG's sorts), 1, 2 its numbers", () -> {
            TracePeaks x = with("smooth;median;flat;turn;clip -1;lift -999;scale 3 4;set 5 -6;noise 007;cut 8 -0");
            due("another SCRIPT", Checks.script(x, "cut 1 2"), 1);
            int[][] want = {{0, HIDDEN, HIDDEN}, {1, HIDDEN, HIDDEN}, {2, HIDDEN, HIDDEN}, {3, HIDDEN, HIDDEN}, {4, -1, HIDDEN},
                {5, -999, HIDDEN}, {6, 3, 4}, {7, 5, -6}, {8, 7, HIDDEN}, {9, 8, 0}};
            for (int i = 0; i < 30; i++) {
                due("step(0, " + i / 3 + ", " + i % 3 + ")", x.step(0, i / 3, i % 3), want[i / 3][i % 3]);
            }
            due("step(1, 0, 0)", x.step(1, 0, 0), 9);
            due("step(1, 0, 1)", x.step(1, 0, 1), 1);
            due("step(1, 0, 2)", x.step(1, 0, 2), 2);
            TracePeaks none = new TracePeaks();
            Checks.script(none, "clip 5");
            due("without a TRACE", none.step(0, 0, 1), 5);
        });
        Sentences.test(37, "(HIDDEN: there are fewer).", () -> {
            TracePeaks x = with("turn;clip 5;set 5 6");
            due("the first of none", x.step(0, 0, 1), HIDDEN);
            due("the second of none", x.step(0, 0, 2), HIDDEN);
            due("the first of one", x.step(0, 1, 1), 5);
            due("the second of one", x.step(0, 1, 2), HIDDEN);
            due("the second of two", x.step(0, 2, 2), 6);
        });
        Sentences.test(37, "HIDDEN: no such ones.", () -> {
            TracePeaks x = with("set 5 6;cut 7 8");
            for (int script : new int[] {-1, 1, 3, 4, LOW, HIGH}) {
                due("step(" + script + ", 0, 0)", x.step(script, 0, 0), HIDDEN);
            }
            for (int i : new int[] {-1, 2, 11, 12, LOW, HIGH}) {
                due("step(0, " + i + ", 0)", x.step(0, i, 0), HIDDEN);
            }
            for (int what : new int[] {-1, 3, LOW, HIGH}) {
                due("step(0, 0, " + what + ")", x.step(0, 0, what), HIDDEN);
            }
            due("step(0, 0, 0) without SCRIPTS", new TracePeaks().step(0, 0, 0), HIDDEN);
            TracePeaks four = new TracePeaks();
            for (int i = 0; i < 4; i++) {
                Checks.script(four, "turn");
            }
            due("the 4th of four", four.step(3, 0, 0), 3);
            due("the 5th of four", four.step(4, 0, 0), HIDDEN);
        });
    }

    private static void runs() {
        Sentences.test(38, "RUN: behind how many (0; NONE: all can be), KEPT ones (1).", () -> {
            TracePeaks x = with("noise 0;turn");
            due("run(0, 0)", x.run(0, 0), NONE);
            due("run(0, 1)", x.run(0, 1), 5);
            due("another SCRIPT", Checks.script(x, "turn;clip -1"), 1);
            due("run(1, 0)", x.run(1, 0), 1);
            due("run(1, 1)", x.run(1, 1), 4);
            Checks.samplesDue("run", x, Sentences.HILL_SAMPLES);
            due("NOISE", x.rule(1), 15);
            due("no ACT", x.held(3) + x.held(4), 0);
            due("no STATUS", x.status(0) + x.status(1), 0);
        });
        Sentences.test(38, "HIDDEN: no such SCRIPT,", () -> {
            TracePeaks x = with("turn");
            for (int script : new int[] {-1, 1, 3, 4, LOW, HIGH}) {
                due("run(" + script + ", 0)", x.run(script, 0), HIDDEN);
                due("run(" + script + ", 1)", x.run(script, 1), HIDDEN);
            }
        });
        Sentences.test(38, "no TRACE,", () -> {
            due("run(0, 0)", Sentences.traceless().run(0, 0), HIDDEN);
            due("run(0, 1)", Sentences.traceless().run(0, 1), HIDDEN);
        });
        Sentences.test(38, "no such what.", () -> {
            for (int what : new int[] {-1, 2, LOW, HIGH}) {
                due("run(0, " + what + ")", with("turn").run(0, what), HIDDEN);
            }
        });
    }

    private static void performs() {
        Sentences.test(39, "DO: how many STEPS were done.", () -> {
            due("all of one", with("turn").perform(0), 1);
            due("all of 12", with("turn;".repeat(11) + "turn").perform(0), 12);
            due("none", with("clip -1;turn").perform(0), 0);
            due("some", with("turn;turn;clip -1;turn").perform(0), 2);
            TracePeaks x = with("turn");
            due("another SCRIPT", Checks.script(x, "flat;flat"), 1);
            due("perform(1)", x.perform(1), 2);
            due("its sort", x.log(0, 0), 2);
        });
        Sentences.test(39, "NONE: no such SCRIPT,", () -> {
            TracePeaks x = with("turn");
            for (int script : new int[] {-1, 1, 3, 4, LOW, HIGH}) {
                due("perform(" + script + ")", x.perform(script), NONE);
            }
            due("no ACT", x.held(3), 0);
        });
        Sentences.test(39, "no TRACE.", () -> {
            TracePeaks x = Sentences.traceless();
            Sentences.changesNothing(x, 0, 0, () -> due("perform(0)", x.perform(0), NONE));
        });
    }
}
