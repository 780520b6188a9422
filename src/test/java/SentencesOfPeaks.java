/** Terms 2 and promises 6 to 11: how peaks come to be, and what is told of them. */
final class SentencesOfPeaks {
    private static final int NONE = Sentences.NONE;
    private static final long THROWS = Sentences.THROWS;
    private static final int LOW = Sentences.LOW;
    private static final int HIGH = Sentences.HIGH;
    private static final String T2 = "Terms 2";
    private static final int[] BAD_WHATS = {-1, -2, 9, 10, LOW, HIGH};

    private SentencesOfPeaks() {
    }

    static void tell() {
        samples();
        beginnings();
        deaths();
        theOneLeft();
        numbers();
        basins();
        widths();
        generations();
        matches();
        rule();
        sample();
        peak();
        basin();
        at();
        line();
    }

    private static void due(String call, long got, long want) {
        Checks.due(call, got, want);
    }

    private static TracePeaks hills() {
        return Sentences.hills();
    }

    /** All of a trace's peaks, each as place, height, valley, death, parent. */
    private static TracePeaks peaksDue(String trace, int[]... want) {
        TracePeaks x = Checks.traced(trace);
        due(trace + ": PEAKS", x.rule(4), want.length);
        int[] whats = {0, 1, 2, 3, 5};
        for (int i = 0; i < want.length; i++) {
            for (int j = 0; j < whats.length; j++) {
                due(trace + ": peak(" + i + ", " + whats[j] + ")", Checks.peak(x, i, whats[j]), want[i][j]);
            }
        }
        return x;
    }

    private static void samples() {
        Sentences.test(7, T2, "SAMPLES stand at places 0, 1 ..,", () -> {
            TracePeaks x = Checks.traced("trace 5 6 7");
            due("sample(0)", x.sample(0), 5);
            due("sample(1)", x.sample(1), 6);
            due("sample(2)", x.sample(2), 7);
            due("sample(3)", x.sample(3), NONE);
        });
        Sentences.test(6, T2, "NOISE is as told.", () -> due("rule(1)", Checks.traced("trace 1;noise 77").rule(1), 77));
        Sentences.test(8, T2, "They COME by falling height,", () -> {
            peaksDue("trace 3 9 5", new int[] {1, 9, NONE, 3, NONE});
            peaksDue("trace 3 1 9", new int[] {2, 9, NONE, 1, NONE}, new int[] {0, 3, 1, 1, 0});
            peaksDue("trace 0 2 1 999", new int[] {3, 999, NONE, 0, NONE}, new int[] {1, 2, 2, 1, 0});
        });
        Sentences.test(8, T2, "of like ones the lower place first.", () -> {
            peaksDue("trace 5 1 5", new int[] {0, 5, NONE, 1, NONE}, new int[] {2, 5, 1, 1, 0});
            peaksDue("trace 1 4 4 1", new int[] {1, 4, NONE, 1, NONE});
            peaksDue("trace 5 3 3", new int[] {0, 5, NONE, 3, NONE});
            // The left 3 comes ahead of the other one, so a peak begins there and dies at once.
            peaksDue("trace 3 3 5", new int[] {2, 5, NONE, 3, NONE}, new int[] {0, 3, 1, 3, 0});
            peaksDue("trace 7 7 7 7", new int[] {0, 7, NONE, 7, NONE});
        });
    }

    private static void beginnings() {
        Sentences.test(8, T2, "With one that COMES: if neither beside it came, a PEAK begins there (its HEIGHT is the sample's);", () -> {
            peaksDue("trace 0", new int[] {0, 0, NONE, 0, NONE});
            peaksDue("trace 8 1 2", new int[] {0, 8, NONE, 1, NONE}, new int[] {2, 2, 1, 1, 0});
            peaksDue("trace 2 1 8", new int[] {2, 8, NONE, 1, NONE}, new int[] {0, 2, 1, 1, 0});
            due("48 places", Checks.traced("trace" + " 9 1".repeat(24)).rule(4), 24);
        });
        Sentences.test(8, T2, "if one did, it goes to the PEAK to which that belongs;", () -> {
            peaksDue("trace 1 2 3 4", new int[] {3, 4, NONE, 1, NONE});
            peaksDue("trace 4 3 2 1", new int[] {0, 4, NONE, 1, NONE});
            peaksDue("trace 1 4 6 5 2", new int[] {2, 6, NONE, 1, NONE});
            due("no PEAK begins at 1", Checks.traced("trace 1 4 6 5 2").at(1, 0), NONE);
        });
    }

    private static void deaths() {
        Sentences.test(8, T2, "if both did, and belong to unlike PEAKS, these JOIN: of both that which began later ends there:", () -> {
            peaksDue("trace 7 2 9", new int[] {2, 9, NONE, 2, NONE}, new int[] {0, 7, 1, 2, 0});
            peaksDue("trace 9 2 7", new int[] {0, 9, NONE, 2, NONE}, new int[] {2, 7, 1, 2, 0});
            peaksDue("trace 7 2 7", new int[] {0, 7, NONE, 2, NONE}, new int[] {2, 7, 1, 2, 0});
        });
        Sentences.test(8, T2, "it DIES (its VALLEY is this place, its DEATH this sample),", () -> {
            peaksDue("trace 9 6 4 7 0", new int[] {0, 9, NONE, 0, NONE}, new int[] {3, 7, 2, 4, 0});
            peaksDue("trace 9 4 4 7", new int[] {0, 9, NONE, 4, NONE}, new int[] {3, 7, 2, 4, 0});
            peaksDue("trace 7 4 4 9", new int[] {3, 9, NONE, 4, NONE}, new int[] {0, 7, 2, 4, 0});
        });
        Sentences.test(8, T2, "all that is its goes to the other one, its PARENT, and so does the sample.", () -> {
            peaksDue("trace 5 3 4 1 9", new int[] {4, 9, NONE, 1, NONE}, new int[] {0, 5, 3, 1, 0}, new int[] {2, 4, 1, 3, 1});
            peaksDue("trace 9 1 4 3 5", new int[] {0, 9, NONE, 1, NONE}, new int[] {4, 5, 1, 1, 0}, new int[] {2, 4, 3, 3, 1});
            peaksDue("trace 9 2 5 4 1 7", new int[] {0, 9, NONE, 1, NONE}, new int[] {5, 7, 4, 1, 0}, new int[] {2, 5, 1, 2, 0});
            peaksDue("trace 7 1 4 5 2 9", new int[] {5, 9, NONE, 1, NONE}, new int[] {0, 7, 1, 1, 0}, new int[] {3, 5, 4, 2, 0});
            peaksDue("trace 4 3 5 1 9", new int[] {4, 9, NONE, 1, NONE}, new int[] {2, 5, 3, 1, 0}, new int[] {0, 4, 1, 3, 1});
            peaksDue("trace 6 5 7 4 8 3 9", new int[] {6, 9, NONE, 3, NONE}, new int[] {4, 8, 5, 3, 0},
                    new int[] {2, 7, 3, 4, 1}, new int[] {0, 6, 1, 5, 2});
        });
    }

    private static void theOneLeft() {
        Sentences.test(8, T2, "The PEAK that is left: its DEATH is the least SAMPLE,", () -> {
            due("the last", Checks.peak(Checks.traced("trace 9 5 2"), 0, 3), 2);
            due("the first", Checks.peak(Checks.traced("trace 0 9 5"), 0, 3), 0);
            due("beyond another PEAK", Checks.peak(Checks.traced("trace 9 5 7 1"), 0, 3), 1);
            due("of one sample", Checks.peak(Checks.traced("trace 7"), 0, 3), 7);
        });
        Sentences.test(8, T2, "it has no VALLEY, no PARENT.", () -> {
            TracePeaks x = hills();
            due("peak(0, 2)", Checks.peak(x, 0, 2), NONE);
            due("peak(0, 5)", Checks.peak(x, 0, 5), NONE);
            due("of one sample: peak(0, 2)", Checks.peak(Checks.traced("trace 7"), 0, 2), NONE);
            due("of one sample: peak(0, 5)", Checks.peak(Checks.traced("trace 7"), 0, 5), NONE);
        });
        Sentences.test(8, T2, "PERSISTENCE: HEIGHT less DEATH.", () -> {
            TracePeaks x = Checks.traced("trace 9 4 7 1");
            due("peak(0, 4)", Checks.peak(x, 0, 4), 8);
            due("peak(1, 4)", Checks.peak(x, 1, 4), 3);
            due("the least", Checks.peak(Checks.traced("trace 7"), 0, 4), 0);
            due("the greatest", Checks.peak(Checks.traced("trace 999 0"), 0, 4), 999);
        });
    }

    private static void numbers() {
        Sentences.test(8, T2, "PEAKS are numbered by falling PERSISTENCE,", () -> {
            // The 85 begins ahead of the 40, but dies at 80.
            peaksDue("trace 99 80 85 10 40", new int[] {0, 99, NONE, 10, NONE}, new int[] {4, 40, 3, 10, 0},
                    new int[] {2, 85, 1, 80, 0});
        });
        Sentences.test(8, T2, "of like ones by place", () -> {
            // The 7 begins ahead of the 4.
            peaksDue("trace 4 2 9 5 7", new int[] {2, 9, NONE, 2, NONE}, new int[] {0, 4, 1, 2, 0}, new int[] {4, 7, 3, 5, 0});
            peaksDue("trace 9 1 5 1 5", new int[] {0, 9, NONE, 1, NONE}, new int[] {2, 5, 1, 1, 0}, new int[] {4, 5, 3, 1, 0});
        });
        Sentences.test(8, T2, "(but that which is left is PEAK 0 always).", () -> {
            peaksDue("trace 9 0 9", new int[] {0, 9, NONE, 0, NONE}, new int[] {2, 9, 1, 0, 0});
            peaksDue("trace 0 9 0 9 0", new int[] {1, 9, NONE, 0, NONE}, new int[] {3, 9, 2, 0, 0});
        });
        Sentences.test(8, T2, "KEPT is PEAK 0,", () -> {
            TracePeaks x = Checks.traced("trace 5 5 5;noise 999");
            due("peak(0, 6)", Checks.peak(x, 0, 6), 1);
            due("rule(5)", x.rule(5), 1);
            due("without noise", Checks.traced("trace 5").rule(5), 1);
        });
        Sentences.test(8, T2, "and whose PERSISTENCE is above NOISE.", () -> {
            due("as great as NOISE", Checks.peak(Checks.traced("trace 9 2 7;noise 5"), 1, 6), 0);
            due("1 above NOISE", Checks.peak(Checks.traced("trace 9 2 7;noise 4"), 1, 6), 1);
            due("0 is not above 0", Checks.peak(Checks.traced("trace 3 3 5"), 1, 6), 0);
            due("1 is above 0", Checks.peak(Checks.traced("trace 3 2 5"), 1, 6), 1);
        });
    }

    private static void basinDue(TracePeaks x, int peak, int first, int last) {
        String trace = Checks.samples(x);
        due("basin(" + peak + ", 0) of " + trace, x.basin(peak, 0), first);
        due("basin(" + peak + ", 1) of " + trace, x.basin(peak, 1), last);
        for (int place = 0; place < x.held(0); place++) {
            boolean inside = place >= first && place <= last;
            due("at(" + place + ", 1) of " + trace + " is " + peak, x.at(place, 1) == peak ? 1 : 0, inside ? 1 : 0);
        }
    }

    private static void basins() {
        Sentences.test(9, T2, "BASIN of a KEPT PEAK: from its place on both ways up to the end,", () -> {
            basinDue(Checks.traced("trace 1 2 9 3 1"), 0, 0, 4);
            basinDue(Checks.traced("trace 7"), 0, 0, 0);
            basinDue(Checks.traced("trace 3 0 9 0 3;noise 5"), 0, 0, 4);
            basinDue(Checks.traced("trace" + " 1".repeat(47) + " 9"), 0, 0, 47);
        });
        Sentences.test(9, T2, "or, where there is another KEPT one beside it, up to the least SAMPLE between both", () -> {
            TracePeaks x = Checks.traced("trace 9 4 2 5 8");
            basinDue(x, 0, 0, 1);
            basinDue(x, 1, 2, 4);
            TracePeaks besideRight = Checks.traced("trace 9 4 2 8");
            basinDue(besideRight, 0, 0, 1);
            basinDue(besideRight, 1, 2, 3);
            TracePeaks besideLeft = Checks.traced("trace 9 2 4 8");
            basinDue(besideLeft, 0, 0, 0);
            basinDue(besideLeft, 1, 1, 3);
            TracePeaks three = Checks.traced("trace 9 1 5 2 8");
            basinDue(three, 0, 0, 0);
            basinDue(three, 2, 1, 2);
            basinDue(three, 1, 3, 4);
            three.noise(3);
            basinDue(three, 0, 0, 0);
            basinDue(three, 1, 1, 4);
        });
        Sentences.test(9, T2, "(the first of several):", () -> {
            TracePeaks x = Checks.traced("trace 9 2 2 8");
            basinDue(x, 0, 0, 0);
            basinDue(x, 1, 1, 3);
            TracePeaks apart = Checks.traced("trace 9 4 2 3 2 5 8;noise 1");
            basinDue(apart, 0, 0, 1);
            basinDue(apart, 1, 2, 6);
        });
        Sentences.test(9, T2, "that belongs to the right one.", () -> {
            TracePeaks x = Checks.traced("trace 9 2 8");
            basinDue(x, 0, 0, 0);
            basinDue(x, 1, 1, 2);
            TracePeaks greater = Checks.traced("trace 8 2 9");
            basinDue(greater, 0, 1, 2);
            basinDue(greater, 1, 0, 0);
        });
        Sentences.test(9, T2, "AREA: SAMPLES of its BASIN less its DEATH, those above, added up.", () -> {
            TracePeaks x = Checks.traced("trace 9 5 8 1");
            due("what is below its DEATH does not count", x.basin(1, 2), 3);
            due("basin(0, 2)", x.basin(0, 2), 8);
            due("of all alike", Checks.traced("trace 5 5 5").basin(0, 2), 0);
            due("of all samples", Checks.traced("trace 1 2 9 3 1").basin(0, 2), 1 + 8 + 2);
            due("the most", Checks.traced("trace 0" + " 999".repeat(47)).basin(0, 2), 999 * 47);
        });
    }

    private static void widths() {
        Sentences.test(9, T2, "WIDTH: how many SAMPLES around its place, one behind another, are no less than", () -> {
            due("just as high", Checks.traced("trace 0 5 9 5 0").basin(0, 3), 3);
            due("1 less", Checks.traced("trace 0 4 9 4 0").basin(0, 3), 1);
            due("one behind another", Checks.traced("trace 5 4 9 5 0 5").basin(0, 3), 2);
            due("both sides are lower", Checks.traced("trace 8 9 8").basin(0, 3), 1);
            due("up to both ends", Checks.traced("trace 9 9 9").basin(0, 3), 3);
            due("one SAMPLE", Checks.traced("trace 5").basin(0, 3), 1);
            due("beyond its BASIN", Checks.traced("trace 20 15 18 0").basin(0, 3), 3);
            due("of another PEAK", Checks.traced("trace 20 0 15 18 15").basin(1, 3), 3);
        });
        Sentences.test(9, T2, "HEIGHT less half of its PERSISTENCE (cut).", () -> {
            due("half of 7 is 3", Checks.traced("trace 9 7 6 5 2").basin(0, 3), 3);
            due("half of 8 is 4", Checks.traced("trace 9 7 6 5 1").basin(0, 3), 4);
            due("half of 1 is 0", Checks.traced("trace 5 4").basin(0, 3), 1);
            due("half of 0 is 0", Checks.traced("trace 5 5").basin(0, 3), 2);
        });
    }

    private static void generations() {
        Sentences.test(8, T2, "GENERATION: 0 of PEAK 0, else 1 more than its PARENT's.", () -> {
            TracePeaks x = Checks.traced("trace 6 5 7 4 8 3 9");
            for (int i = 0; i < 4; i++) {
                due("peak(" + i + ", 7)", Checks.peak(x, i, 7), i);
            }
            TracePeaks y = Checks.traced("trace 5 0 9 0 5");
            due("two of one PARENT", Checks.peak(y, 1, 7) + Checks.peak(y, 2, 7), 2);
            TracePeaks deep = Checks.traced("trace 10 5 12 5 14 5 16 5 18 5 20 5 22 5 24 5 26 5 28 5 30 5 32 5 34 5 36 5 38 5 40 5 42 5 44"
                    + " 5 46 5 48 5 50 5 52 5 54 5 56");
            due("the deepest", Checks.peak(deep, 23, 7), 23);
            due("its own PARENT is 1 less", Checks.peak(deep, 22, 7), 22);
        });
    }

    private static void matches() {
        Sentences.test(11, T2, "LINES are MATCHED: each KEPT PEAK, by number,", () -> {
            TracePeaks x = Checks.traced("trace 5 0 9;line a 1");
            due("PEAK 0 takes it, though behind", x.line(0, 1), 0);
            due("PEAK 1 has none", Checks.peak(x, 1, 8), NONE);
            TracePeaks y = Checks.traced("trace 9 0 3;noise 3;line a 2");
            due("one not KEPT takes none", y.line(0, 1), NONE);
            y.noise(2);
            due("but KEPT it does", y.line(0, 1), 1);
        });
        Sentences.test(11, T2, "takes that LINE not taken yet", () -> {
            TracePeaks x = Checks.traced("trace 9 0 8;line a 1;line b 1");
            due("the first LINE", x.line(0, 1), 0);
            due("the second LINE", x.line(1, 1), 1);
            TracePeaks y = Checks.traced("trace 9 0 8;reach 9;line a 1;line b 9");
            due("the next one, though further", y.line(1, 1), 1);
            TracePeaks z = Checks.traced("trace 9 0 8 0 7;line a 1");
            due("none is left", Checks.peak(z, 1, 8), NONE);
            due("none is left", Checks.peak(z, 2, 8), NONE);
        });
        Sentences.test(11, T2, "that is nearest to its place (of several the lowest),", () -> {
            TracePeaks x = Checks.traced("trace 0 0 9 0 0;line a 3;line b 1");
            due("of both sides the lowest LINE", x.line(0, 1), 0);
            due("not the other", x.line(1, 1), NONE);
            TracePeaks y = Checks.traced("trace 0 0 9 0 0;reach 5;line a 4;line b 3;line c 0;line d 3");
            due("the nearest", y.line(1, 1), 0);
            due("not a further one", y.line(0, 1), NONE);
            due("not one as near behind it", y.line(3, 1), NONE);
        });
        Sentences.test(11, T2, "if it is no further than REACH.", () -> {
            due("2 from it", Checks.traced("trace 9 0 0 0;reach 2;line a 2").line(0, 1), 0);
            due("3 from it", Checks.traced("trace 9 0 0 0;reach 2;line a 3").line(0, 1), NONE);
            due("2 ahead of it", Checks.traced("trace 0 0 0 9;reach 2;line a 1").line(0, 1), 0);
            due("3 ahead of it", Checks.traced("trace 0 0 0 9;reach 2;line a 0").line(0, 1), NONE);
            due("REACH 0: there", Checks.traced("trace 9 0;reach 0;line a 0").line(0, 1), 0);
            due("REACH 0: beside it", Checks.traced("trace 9 0;reach 0;line a 1").line(0, 1), NONE);
            due("REACH 9", Checks.traced("trace 9;reach 9;line a 9").line(0, 1), 0);
            due("REACH 9: 10 from it", Checks.traced("trace 9;reach 9;line a 10").line(0, 1), NONE);
        });
    }

    private static void rule() {
        Sentences.test(6, "0 how many SAMPLES, 1 NOISE, 2 REACH, 3 LINES, 4 PEAKS, 5 KEPT ones, "
                + "6 the least SAMPLE, 7 all SAMPLES added up.", () -> {
            TracePeaks x = hills();
            int[] want = {10, 15, 1, 4, 5, 4, 5, 400};
            for (int i = 0; i < 8; i++) {
                due("rule(" + i + ")", x.rule(i), want[i]);
            }
            TracePeaks one = Checks.traced("trace 0");
            int[] least = {1, 0, 1, 0, 1, 1, 0, 0};
            for (int i = 0; i < 8; i++) {
                due("rule(" + i + ") of one SAMPLE", one.rule(i), least[i]);
            }
            TracePeaks full = Checks.traced("trace" + " 999".repeat(48));
            due("the most added up", full.rule(7), 999 * 48);
            due("the greatest least", full.rule(6), 999);
        });
        Sentences.test(6, "NONE: no TRACE,", () -> {
            for (int i = 0; i < 8; i++) {
                due("rule(" + i + ")", new TracePeaks().rule(i), NONE);
            }
        });
        Sentences.test(6, "no such what.", () -> {
            TracePeaks x = hills();
            for (int what : new int[] {-1, 8, 9, LOW, HIGH}) {
                due("rule(" + what + ")", x.rule(what), NONE);
            }
        });
    }

    private static void sample() {
        Sentences.test(7, "The SAMPLE at a place.", () -> {
            TracePeaks x = hills();
            due("sample(0)", x.sample(0), 10);
            due("sample(3)", x.sample(3), 90);
            due("sample(9)", x.sample(9), 25);
        });
        Sentences.test(7, "NONE: no such one.", () -> {
            TracePeaks x = hills();
            for (int place : new int[] {-1, 10, 47, 48, LOW, HIGH}) {
                due("sample(" + place + ")", x.sample(place), NONE);
            }
            x.cut(0, 4);
            due("sample(3) behind a CUT", x.sample(3), 90);
            due("sample(4) behind a CUT", x.sample(4), NONE);
            due("sample(0) of no TRACE", new TracePeaks().sample(0), NONE);
            TracePeaks full = Checks.traced("trace" + " 1".repeat(48));
            due("sample(47) of 48", full.sample(47), 1);
            due("sample(48) of 48", full.sample(48), NONE);
        });
    }

    private static void peak() {
        Sentences.test(8, "Of a PEAK: 0 place, 1 HEIGHT, 2 VALLEY", () -> {
            TracePeaks x = hills();
            int[][] want = {{3, 90, NONE}, {7, 70, 4}, {1, 40, 2}, {9, 25, 8}, {5, 60, 6}};
            for (int i = 0; i < 15; i++) {
                due("peak(" + i / 3 + ", " + i % 3 + ")", Checks.peak(x, i / 3, i % 3), want[i / 3][i % 3]);
            }
        });
        Sentences.test(8, "VALLEY (NONE without), 3 DEATH, 4 PERSISTENCE, 5 PARENT", () -> {
            TracePeaks x = hills();
            int[][] want = {{NONE, 5, 85, NONE}, {4, 30, 40, 0}, {2, 20, 20, 0}, {8, 5, 20, 0}, {6, 50, 10, 1}};
            for (int i = 0; i < 20; i++) {
                due("peak(" + i / 4 + ", " + (i % 4 + 2) + ")", Checks.peak(x, i / 4, i % 4 + 2), want[i / 4][i % 4]);
            }
        });
        Sentences.test(8, "PARENT (NONE without), 6 whether KEPT (1, 0), 7 GENERATION,", () -> {
            TracePeaks x = hills();
            int[][] want = {{NONE, 1, 0}, {0, 1, 1}, {0, 1, 1}, {0, 1, 1}, {1, 0, 2}};
            for (int i = 0; i < 15; i++) {
                due("peak(" + i / 3 + ", " + (i % 3 + 5) + ")", Checks.peak(x, i / 3, i % 3 + 5), want[i / 3][i % 3]);
            }
        });
        Sentences.test(8, "8 the LINE it MATCHED (NONE without).", () -> {
            TracePeaks x = hills();
            int[] want = {0, 1, 3, 2, NONE};
            for (int i = 0; i < 5; i++) {
                due("peak(" + i + ", 8)", Checks.peak(x, i, 8), want[i]);
            }
            due("without LINES", Checks.peak(Checks.traced("trace 1"), 0, 8), NONE);
        });
        Sentences.test(8, "NoSuchElementException: no such ones.", () -> {
            TracePeaks x = hills();
            due("peak(4, 0)", Checks.peak(x, 4, 0), 5);
            for (int peak : new int[] {-1, 5, 47, 48, LOW, HIGH}) {
                due("peak(" + peak + ", 0)", Checks.peak(x, peak, 0), THROWS);
                due("peak(" + peak + ", 9)", Checks.peak(x, peak, 9), THROWS);
            }
            for (int what : BAD_WHATS) {
                due("peak(0, " + what + ")", Checks.peak(x, 0, what), THROWS);
            }
            x.cut(0, 3);
            due("peak(1, 0) where one is left", Checks.peak(x, 1, 0), THROWS);
            for (int what = 0; what < 9; what++) {
                due("peak(0, " + what + ") of no TRACE", Checks.peak(new TracePeaks(), 0, what), THROWS);
            }
        });
    }

    private static void basin() {
        Sentences.test(9, "Of a KEPT PEAK: 0, 1 the first and the last place of its BASIN, 2 AREA, 3 WIDTH.", () -> {
            TracePeaks x = hills();
            int[][] want = {{2, 3, 100, 1}, {4, 7, 90, 3}, {0, 1, 20, 1}, {8, 9, 20, 1}};
            for (int i = 0; i < 16; i++) {
                due("basin(" + i / 4 + ", " + i % 4 + ")", x.basin(i / 4, i % 4), want[i / 4][i % 4]);
            }
        });
        Sentences.test(9, "NONE: no such ones,", () -> {
            TracePeaks x = hills();
            x.noise(0);
            for (int peak : new int[] {-1, 5, 47, 48, LOW, HIGH}) {
                due("basin(" + peak + ", 0)", x.basin(peak, 0), NONE);
            }
            for (int what : new int[] {-1, 4, 5, LOW, HIGH}) {
                due("basin(0, " + what + ")", x.basin(0, what), NONE);
            }
            for (int what = 0; what < 4; what++) {
                due("basin(0, " + what + ") of no TRACE", new TracePeaks().basin(0, what), NONE);
            }
        });
        Sentences.test(9, "not KEPT.", () -> {
            TracePeaks x = hills();
            for (int what = 0; what < 4; what++) {
                due("basin(4, " + what + ")", x.basin(4, what), NONE);
            }
            x.noise(9);
            due("basin(4, 0) KEPT", x.basin(4, 0), 5 - 1);
        });
    }

    private static void at() {
        Sentences.test(10, "The PEAK that begins at a place (what 0);", () -> {
            TracePeaks x = hills();
            int[] want = {NONE, 2, NONE, 0, NONE, 4, NONE, 1, NONE, 3};
            for (int i = 0; i < 10; i++) {
                due("at(" + i + ", 0)", x.at(i, 0), want[i]);
            }
            x.set(5, 40);
            due("at(5, 0) once none begins there", x.at(5, 0), NONE);
            TracePeaks y = Checks.traced("trace 9 0 5");
            due("at(2, 0)", y.at(2, 0), 1);
            y.set(2, 0);
            due("at(2, 0) once none begins there", y.at(2, 0), NONE);
        });
        Sentences.test(10, "the KEPT one in whose BASIN it is (1).", () -> {
            TracePeaks x = hills();
            int[] want = {2, 2, 0, 0, 1, 1, 1, 1, 3, 3};
            for (int i = 0; i < 10; i++) {
                due("at(" + i + ", 1)", x.at(i, 1), want[i]);
            }
        });
        Sentences.test(10, "NONE: none, no such ones.", () -> {
            TracePeaks x = hills();
            due("none begins", x.at(0, 0), NONE);
            for (int place : new int[] {-1, 10, 47, 48, LOW, HIGH}) {
                due("at(" + place + ", 0)", x.at(place, 0), NONE);
                due("at(" + place + ", 1)", x.at(place, 1), NONE);
            }
            for (int what : new int[] {-1, 2, 3, LOW, HIGH}) {
                due("at(3, " + what + ")", x.at(3, what), NONE);
            }
            due("at(0, 0) of no TRACE", new TracePeaks().at(0, 0), NONE);
            due("at(0, 1) of no TRACE", new TracePeaks().at(0, 1), NONE);
            x.cut(3, 1);
            due("at(0, 0) of the one SAMPLE left", x.at(0, 0), 0);
            due("at(1, 1) beyond it", x.at(1, 1), NONE);
        });
    }

    private static void line() {
        Sentences.test(11, "Of a LINE: its place (what 0), the PEAK that MATCHED it (1; NONE without), how many letters its NAME has (2).", () -> {
            TracePeaks x = hills();
            int[][] want = {{4, 0, 5}, {8, 1, 1}, {8, 3, 1}, {0, 2, 1}};
            for (int i = 0; i < 12; i++) {
                due("line(" + i / 3 + ", " + i % 3 + ")", x.line(i / 3, i % 3), want[i / 3][i % 3]);
            }
            x.noise(20);
            due("line(3, 1) without", x.line(3, 1), NONE);
        });
        Sentences.test(11, "NONE: no such ones.", () -> {
            TracePeaks x = hills();
            for (int line : new int[] {-1, 4, 7, 8, LOW, HIGH}) {
                due("line(" + line + ", 0)", x.line(line, 0), NONE);
                due("line(" + line + ", 1)", x.line(line, 1), NONE);
            }
            for (int what : new int[] {-1, 3, LOW, HIGH}) {
                due("line(0, " + what + ")", x.line(0, what), NONE);
            }
            due("line(0, 0) without LINES", Checks.traced("trace 1").line(0, 0), NONE);
            due("line(0, 0) of no TRACE", new TracePeaks().line(0, 0), NONE);
        });
    }
}
