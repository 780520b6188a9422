/** Terms 4 and promises 26 to 36 and 40: what is asked apart from as it is now. */
final class SentencesOfQuestions {
    private static final int NONE = Sentences.NONE;
    private static final int HIDDEN = Sentences.HIDDEN;
    private static final int LOW = Sentences.LOW;
    private static final int HIGH = Sentences.HIGH;
    private static final String T4 = "Terms 4";

    private SentencesOfQuestions() {
    }

    static void tell() {
        apart();
        noiseFor();
        pieces();
        room();
        unlike();
        shift();
        missed();
        would();
        solo();
        tallest();
        change();
        spell();
        most();
        mostOfAll();
    }

    private static void due(String call, long got, long want) {
        Checks.due(call, got, want);
    }

    private static TracePeaks hills() {
        return Sentences.hills();
    }

    private static void apart() {
        Sentences.test(32, T4, "(Apart, from as it is now.)", () -> {
            TracePeaks x = Sentences.busy();
            Sentences.changesNothing(x, 0, 0, () -> {
                due("noiseFor(2)", x.noiseFor(2), 21);
                due("pieces(50)", x.pieces(50), 2);
                due("room(0)", x.room(0), 7);
                due("unlike()", x.unlike(), 1);
                due("shift(1)", x.shift(1), 4);
                due("missed()", x.missed(), 0);
                due("would(3, 0, 1)", x.would(3, 0, 1), 7);
                due("solo()", x.solo(), 1);
                due("tallest(2)", x.tallest(2), 4);
                due("change(1)", x.change(1), 3);
                due("spell(0, 0)", x.spell(0, 0), 'a');
                due("run(0, 1)", x.run(0, 1), 1);
                due("most(0)", x.most(0), 20);
            });
            due("undo()", x.undo(), 1);
            Checks.samplesDue("undo()", x, Sentences.HILL_SAMPLES);
            x.lift(-10);
            due("as it is now: noiseFor(1)", x.noiseFor(1), 40);
            due("as it is now: pieces(61)", x.pieces(61), 1);
            due("as it is now: would(3, 0, 1)", x.would(3, 0, 1), 7);
            due("as it is now: would(7, 0, 2)", x.would(7, 0, 2), 4);
        });
    }

    private static void noiseFor() {
        Sentences.test(26, T4, "NOISE FOR k (1 .. 48):", () -> {
            TracePeaks x = hills();
            due("noiseFor(1)", x.noiseFor(1), 40);
            due("noiseFor(48)", x.noiseFor(48), 0);
            due("noiseFor(0)", x.noiseFor(0), NONE);
            due("noiseFor(49)", x.noiseFor(49), NONE);
        });
        Sentences.test(26, T4, "the least by which no more than k are KEPT.", () -> {
            TracePeaks x = hills();
            int[] want = {40, 20, 20, 10, 0, 0};
            for (int k = 1; k <= 6; k++) {
                due("noiseFor(" + k + ")", x.noiseFor(k), want[k - 1]);
            }
            x.noise(20);
            due("of like ones both go: KEPT by 20", x.rule(5), 2);
            x.noise(19);
            due("KEPT by 19", x.rule(5), 4);
            due("a PERSISTENCE of 0 is never KEPT", Checks.traced("trace 3 3 5").noiseFor(1), 0);
            due("the greatest", Checks.traced("trace 999 0 999").noiseFor(1), 999);
        });
        Sentences.test(26, "NOISE FOR.", () -> {
            TracePeaks x = hills();
            due("noiseFor(2)", x.noiseFor(2), 20);
            due("NOISE stays", x.rule(1), 15);
        });
        Sentences.test(26, "NONE: no TRACE,", () -> {
            due("noiseFor(1)", new TracePeaks().noiseFor(1), NONE);
            due("noiseFor(48)", new TracePeaks().noiseFor(48), NONE);
        });
        Sentences.test(26, "out of bounds.", () -> {
            for (int k : new int[] {0, -1, 49, LOW, HIGH}) {
                due("noiseFor(" + k + ")", hills().noiseFor(k), NONE);
            }
        });
    }

    private static void pieces() {
        Sentences.test(27, T4, "PIECES at a height (0 .. 999):", () -> {
            TracePeaks x = Checks.traced("trace 999 0 999");
            due("pieces(0)", x.pieces(0), 1);
            due("pieces(999)", x.pieces(999), 2);
            due("pieces(-1)", x.pieces(-1), NONE);
            due("pieces(1000)", x.pieces(1000), NONE);
        });
        Sentences.test(27, T4, "how often SAMPLES one behind another are no less.", () -> {
            TracePeaks x = hills();
            due("pieces(25)", x.pieces(25), 3);
            due("pieces(26)", x.pieces(26), 2);
            due("pieces(50)", x.pieces(50), 2);
            due("pieces(51)", x.pieces(51), 3);
            due("pieces(90)", x.pieces(90), 1);
            due("pieces(91)", x.pieces(91), 0);
            due("pieces(10)", x.pieces(10), 2);
            due("24 of 48", Checks.traced("trace" + " 9 1".repeat(24)).pieces(2), 24);
        });
        Sentences.test(27, "PIECES.", () -> {
            due("pieces(3)", Checks.traced("trace 3 2 3 4 1").pieces(3), 2);
            due("pieces(3) of one SAMPLE", Checks.traced("trace 3").pieces(3), 1);
        });
        Sentences.test(27, "NONE: no TRACE,", () -> {
            due("pieces(0)", new TracePeaks().pieces(0), NONE);
            due("pieces(5)", new TracePeaks().pieces(5), NONE);
        });
        Sentences.test(27, "out of bounds.", () -> {
            for (int height : new int[] {-1, 1000, LOW, HIGH}) {
                due("pieces(" + height + ")", hills().pieces(height), NONE);
            }
        });
    }

    private static void room() {
        Sentences.test(28, T4, "ROOM: by how much NOISE may grow, fall", () -> {
            TracePeaks x = hills();
            due("room(0)", x.room(0), 4);
            due("room(1)", x.room(1), 5);
            x.noise(19);
            due("room(0) of 19", x.room(0), 0);
            due("room(1) of 19", x.room(1), 9);
            x.noise(10);
            due("room(0) of 10", x.room(0), 9);
            due("room(1) of 10", x.room(1), 0);
        });
        Sentences.test(28, T4, "(as long as it is 0 .. 999)", () -> {
            TracePeaks x = hills();
            x.noise(40);
            due("up to 999", x.room(0), 959);
            x.noise(999);
            due("of 999 to grow", x.room(0), 0);
            due("of 999 to fall", x.room(1), 959);
            x.noise(9);
            due("down to 0", x.room(1), 9);
            x.noise(0);
            due("of 0 to fall", x.room(1), 0);
            due("of 0 to grow", x.room(0), 9);
            TracePeaks one = Checks.traced("trace 5;noise 300");
            due("one PEAK: up to 999", one.room(0), 699);
            due("one PEAK: down to 0", one.room(1), 300);
            due("PERSISTENCE of 0: down to 0", Checks.traced("trace 3 3 5;noise 7").room(1), 7);
        });
        Sentences.test(28, T4, "with as many KEPT.", () -> {
            TracePeaks x = hills();
            int kept = x.rule(5);
            x.noise(15 + 4);
            due("KEPT by all of its ROOM to grow", x.rule(5), kept);
            x.noise(15 + 5);
            due("KEPT by 1 more", x.rule(5), 2);
            x.noise(15 - 5);
            due("KEPT by all of its ROOM to fall", x.rule(5), kept);
            x.noise(15 - 6);
            due("KEPT by 1 more", x.rule(5), 5);
            due("like PEAKS", Checks.traced("trace 9 0 5 0 5").room(0), 4);
        });
        Sentences.test(28, "ROOM: to grow (0), to fall (1).", () -> {
            TracePeaks x = Checks.traced("trace 9 0 5 0 3;noise 3");
            due("room(0)", x.room(0), 1);
            due("room(1)", x.room(1), 0);
        });
        Sentences.test(28, "NONE: no TRACE,", () -> {
            due("room(0)", new TracePeaks().room(0), NONE);
            due("room(1)", new TracePeaks().room(1), NONE);
        });
        Sentences.test(28, "no such what.", () -> {
            for (int what : new int[] {-1, 2, LOW, HIGH}) {
                due("room(" + what + ")", hills().room(what), NONE);
            }
        });
    }

    private static void unlike() {
        Sentences.test(29, T4, "UNLIKE: PERSISTENCES as they are and those of the IMAGE, each by falling, "
                + "what they differ by one by one added up", () -> {
            TracePeaks x = Checks.traced("trace 9 0 5 0 3");
            x.image();
            due("as it is", x.unlike(), 0);
            x.set(4, 8);
            due("9 8 5 and 9 5 3", x.unlike(), 3 + 2);
            x.set(0, 4);
            due("8 5 4 and 9 5 3", x.unlike(), 1 + 0 + 1);
            x.noise(999);
            due("KEPT or not", x.unlike(), 2);
            due("turned", x.turn() + x.unlike(), 8 + 2);
            x.back();
            due("behind back()", x.unlike(), 0);
        });
        Sentences.test(29, T4, "(0 for what is not there).", () -> {
            TracePeaks x = Checks.traced("trace 9 0 5 0 3");
            x.image();
            x.cut(0, 2);
            due("9 and 9 5 3", x.unlike(), 5 + 3);
            x.image();
            x.undo();
            due("9 5 3 and 9", x.unlike(), 5 + 3);
            x.noise(999);
            due("9 5 3 and 9, KEPT or not", x.unlike(), 5 + 3);
        });
        Sentences.test(29, "UNLIKE.", () -> {
            TracePeaks x = hills();
            x.image();
            x.set(9, 5);
            due("85 40 20 10 and 85 40 20 20 10", x.unlike(), 10 + 10);
            x.image();
            due("with the later IMAGE", x.unlike(), 0);
        });
        Sentences.test(29, "NONE: no IMAGE of this TRACE.", () -> {
            TracePeaks x = hills();
            due("no IMAGE", x.unlike(), NONE);
            x.image();
            due("another TRACE", Checks.write(x, "trace 1").text(0), 1);
            due("no IMAGE of it", x.unlike(), NONE);
            due("no TRACE", new TracePeaks().unlike(), NONE);
        });
    }

    private static void shiftDue(String trace, int by, int many) {
        TracePeaks x = Checks.traced(trace);
        due("shift(0) of " + trace, x.shift(0), by);
        due("shift(1) of " + trace, x.shift(1), many);
    }

    private static void shift() {
        Sentences.test(30, T4, "SHIFT: by which of -9 .. 9, added to all places of PEAKS, most LINES would be MATCHED", () -> {
            shiftDue("trace 9 0 8;reach 0;line a 9;line b 11", 9, 2);
            shiftDue("trace 9;reach 0;line a 10", 0, 0);
            shiftDue("trace 0 0 0 0 0 0 0 0 0 9;reach 0;line a 0", -9, 1);
            shiftDue("trace 0 0 0 0 0 0 0 0 0 0 9;reach 0;line a 0", 0, 0);
            shiftDue("trace 9 0 8 0 7;reach 0;line a 0;line b 3;line c 5", 1, 2);
            shiftDue("trace 9 0 8 0 7;noise 8;reach 0;line a 0;line b 3;line c 5", 0, 1);
        });
        Sentences.test(30, T4, "(of several that nearest to 0,", () -> {
            shiftDue("trace 0 0 0 9 0 0 0;reach 0;line a 1;line b 4", 1, 1);
            shiftDue("trace 0 0 0 9 0 0 0;reach 0;line a 2;line b 5", -1, 1);
            shiftDue("trace 0 0 0 9 0 0 0;reach 9;line a 0", 0, 1);
            shiftDue("trace 1", 0, 0);
        });
        Sentences.test(30, T4, "below 0 first); how many.", () -> {
            shiftDue("trace 0 0 0 9 0 0 0;reach 0;line a 5;line b 1", -2, 1);
            shiftDue("trace 0 0 0 9 0 0 0;reach 1;line a 5;line b 1", -1, 1);
        });
        Sentences.test(30, "SHIFT (0), how many (1).", () -> {
            shiftDue(Sentences.HILLS, 0, 4);
            TracePeaks x = Checks.traced("trace 0 9 0 0 9 0;line x 3;line y 6;reach 0");
            due("shift(0)", x.shift(0), 2);
            due("shift(1)", x.shift(1), 2);
            due("they are not MATCHED as it is", x.missed(), 3);
        });
        Sentences.test(30, "HIDDEN: no TRACE,", () -> {
            due("shift(0)", new TracePeaks().shift(0), HIDDEN);
            due("shift(1)", new TracePeaks().shift(1), HIDDEN);
        });
        Sentences.test(30, "no such what.", () -> {
            for (int what : new int[] {-1, 2, LOW, HIGH}) {
                due("shift(" + what + ")", hills().shift(what), HIDDEN);
            }
        });
    }

    private static void missed() {
        Sentences.test(31, T4, "MISSED: LINES that are not MATCHED (bits).", () -> {
            TracePeaks x = hills();
            due("none", x.missed(), 0);
            x.noise(20);
            due("c, d", x.missed(), 4 + 8);
            x.cut(0, 1);
            due("a, b, c", x.missed(), 1 + 2 + 4);
            due("all of eight", Checks.traced("trace 1;reach 0;line a 1;line b 1;line c 1;line d 1;line e 1;line f 1;"
                    + "line g 1;line h 1").missed(), 255);
        });
        Sentences.test(31, "MISSED (bits).", () -> {
            due("without LINES", Checks.traced("trace 1").missed(), 0);
            due("the second", Checks.traced("trace 1;line a 0;line b 0").missed(), 2);
        });
        Sentences.test(31, "NONE: no TRACE.", () -> due("missed()", new TracePeaks().missed(), NONE));
    }

    private static void would() {
        Sentences.test(32, T4, "WOULD a SAMPLE be SET: how many are KEPT; the place of PEAK 0; how many PEAKS there are.", () -> {
            TracePeaks x = hills();
            due("would(9, 0, 0)", x.would(9, 0, 0), 3);
            due("would(9, 0, 1)", x.would(9, 0, 1), 3);
            due("would(9, 0, 2)", x.would(9, 0, 2), 4);
            due("would(9, 999, 1)", x.would(9, 999, 1), 9);
            due("would(0, 999, 1)", x.would(0, 999, 1), 0);
            due("would(0, 60, 0)", x.would(0, 60, 0), 5 - 1);
            Checks.samplesDue("it is not SET", x, Sentences.HILL_SAMPLES);
        });
        Sentences.test(32, "WOULD: KEPT ones (0), the place of PEAK 0 (1), PEAKS (2).", () -> {
            TracePeaks x = Checks.traced("trace 9 0 8 0 1;noise 2");
            due("would(2, 0, 0)", x.would(2, 0, 0), 1);
            due("would(0, 7, 1)", x.would(0, 7, 1), 2);
            due("would(4, 0, 2)", x.would(4, 0, 2), 2);
            due("would(3, 5, 2)", x.would(3, 5, 2), 2);
        });
        Sentences.test(32, "NONE: as SET would be refused,", () -> {
            TracePeaks x = Sentences.busy();
            Sentences.changesNothing(x, 0, 0, () -> {
                for (int place : new int[] {-1, 10, 48, LOW, HIGH}) {
                    due("would(" + place + ", 0, 0)", x.would(place, 0, 0), NONE);
                }
                for (int n : new int[] {-1, 1000, LOW, HIGH}) {
                    due("would(0, " + n + ", 0)", x.would(0, n, 0), NONE);
                }
            });
            due("would(0, 999, 1)", x.would(0, 999, 1), 0);
            due("would(0, 0, 1)", x.would(0, 0, 1), 3);
            TracePeaks none = new TracePeaks();
            due("would(0, 1, 0) of no TRACE", none.would(0, 1, 0), NONE);
            due("its status(0)", none.status(0), 0);
        });
        Sentences.test(32, "no such what.", () -> {
            for (int what : new int[] {-1, 3, LOW, HIGH}) {
                due("would(0, 0, " + what + ")", hills().would(0, 0, what), NONE);
            }
        });
    }

    private static void solo() {
        Sentences.test(33, T4, "SOLO: the PEAK not 0 whose HEIGHT is the greatest,", () -> {
            due("of the greatest HEIGHT", Checks.traced("trace 99 80 85 10 40").solo(), 2);
            due("KEPT or not", Checks.traced("trace 99 80 85 10 40;noise 10").solo(), 2);
            due("PEAK 0 is not looked at", Checks.traced("trace 9 0 3").solo(), 1);
        });
        Sentences.test(33, T4, "is the greatest, of several the lowest.", () -> {
            due("of like ones", Checks.traced("trace 9 1 7 0 7").solo(), 1);
            due("of like ones behind a lower one", Checks.traced("trace 9 0 6 0 9 8 9").solo(), 1);
            due("of like ones of unlike PERSISTENCE", Checks.traced("trace 9 5 8 6 8 0 7").solo(), 2);
        });
        Sentences.test(33, "SOLO.", () -> due("solo()", hills().solo(), 1));
        Sentences.test(33, "NONE: no TRACE,", () -> due("solo()", new TracePeaks().solo(), NONE));
        Sentences.test(33, "there is none.", () -> {
            due("one PEAK", Checks.traced("trace 1 5 2").solo(), NONE);
            due("one SAMPLE", Checks.traced("trace 5").solo(), NONE);
        });
    }

    private static void tallest() {
        Sentences.test(34, T4, "TALLEST of a GENERATION: its PEAK with the greatest HEIGHT,", () -> {
            TracePeaks x = Checks.traced("trace 99 80 85 10 40");
            due("tallest(0)", x.tallest(0), 0);
            due("tallest(1)", x.tallest(1), 2);
            x.noise(999);
            due("KEPT or not", x.tallest(1), 2);
        });
        Sentences.test(34, T4, "with the greatest HEIGHT, of several the lowest.", () -> {
            due("of like ones", Checks.traced("trace 9 1 7 0 7").tallest(1), 1);
            due("of like ones behind a lower one", Checks.traced("trace 9 5 8 5 8 0 7").tallest(1), 2);
        });
        Sentences.test(34, "TALLEST.", () -> {
            TracePeaks x = hills();
            due("tallest(1)", x.tallest(1), 1);
            due("tallest(2)", x.tallest(2), 4);
        });
        Sentences.test(34, "NONE: no TRACE,", () -> due("tallest(0)", new TracePeaks().tallest(0), NONE));
        Sentences.test(34, "there is none.", () -> {
            for (int generation : new int[] {3, -1, 48, LOW, HIGH}) {
                due("tallest(" + generation + ")", hills().tallest(generation), NONE);
            }
            due("tallest(1) of one PEAK", Checks.traced("trace 5").tallest(1), NONE);
        });
    }

    private static void change() {
        Sentences.test(35, T4, "CHANGE: the place at which one SAMPLE, SET to 0, makes fewest KEPT", () -> {
            TracePeaks x = hills();
            due("change(0)", x.change(0), 1);
            due("change(1)", x.change(1), 3);
            TracePeaks y = Checks.traced("trace 9 9 5 9;noise 3");
            due("the last", y.change(0), 3);
            due("KEPT", y.change(1), 1);
            due("SET to 0, not to 1", Checks.traced("trace 1 0 1 0 9").change(0), 0);
            due("SET to 0, not below", Checks.traced("trace 5 0 7 1 9;noise 5").change(0), 2);
            x.set(1, 10);
            due("behind an ACT", x.change(0), 9);
            due("behind an ACT: KEPT", x.change(1), 2);
            TracePeaks other = hills();
            due("another TRACE is asked of", Checks.write(other, "trace 1").fault(0), NONE);
            due("change(0) of that which is", other.change(0), 1);
        });
        Sentences.test(35, T4, "(of several the lowest);", () -> {
            due("all alike", Checks.traced("trace 4 4").change(0), 0);
            due("one of two", Checks.traced("trace 9 0 5 0 5").change(0), 0);
            due("none changes it", Checks.traced("trace 0 0 0").change(0), 0);
            due("one of 48", Checks.traced("trace" + " 9 1".repeat(24)).change(0), 0);
            due("one of 48: KEPT", Checks.traced("trace" + " 9 1".repeat(24)).change(1), 23);
            due("one SAMPLE", Checks.traced("trace 5").change(0), 0);
        });
        Sentences.test(35, T4, "(of several the lowest); how many.", () -> {
            due("one SAMPLE", Checks.traced("trace 5").change(1), 1);
            due("one of three", Checks.traced("trace 9 0 5 0 5").change(1), 2);
        });
        Sentences.test(35, "CHANGE: the place (0), KEPT ones (1).", () -> {
            TracePeaks x = Checks.traced("trace 9 5 7;noise 1");
            due("change(0)", x.change(0), 0);
            due("change(1)", x.change(1), 1);
            Checks.samplesDue("change", x, "9 5 7");
        });
        Sentences.test(35, "NONE: no TRACE,", () -> {
            due("change(0)", new TracePeaks().change(0), NONE);
            due("change(1)", new TracePeaks().change(1), NONE);
        });
        Sentences.test(35, "no such what.", () -> {
            for (int what : new int[] {-1, 2, LOW, HIGH}) {
                due("change(" + what + ")", hills().change(what), NONE);
            }
        });
    }

    private static void speltDue(TracePeaks x, int peak, String want) {
        due("spell(" + peak + ", NONE)", x.spell(peak, NONE), want.length());
        for (int i = 0; i < want.length(); i++) {
            due("spell(" + peak + ", " + i + ") of " + want, x.spell(peak, i), want.charAt(i));
        }
        due("spell(" + peak + ", " + want.length() + ")", x.spell(peak, want.length()), NONE);
    }

    private static void spell() {
        Sentences.test(36, T4, "SPELL of a KEPT PEAK: bytes of NAME@p:h (its LINE, ? without; its place, its HEIGHT): how many, the i-th.", () -> {
            TracePeaks x = hills();
            speltDue(x, 0, "alpha@3:90");
            speltDue(x, 1, "b@7:70");
            speltDue(x, 2, "d@1:40");
            speltDue(x, 3, "c@9:25");
            speltDue(Checks.traced("trace 0"), 0, "?@0:0");
            speltDue(Checks.traced("trace 1 1 1 1 1 1 1 1 1 1 10"), 0, "?@10:10");
            speltDue(Checks.traced("trace 99;reach 0;line a 1"), 0, "?@0:99");
            speltDue(Checks.traced("trace 100"), 0, "?@0:100");
            speltDue(Checks.traced("trace" + " 1".repeat(47) + " 999;line abcdef 46"), 0, "abcdef@47:999");
        });
        Sentences.test(36, "SPELL: how many bytes (i NONE), the i-th.", () -> {
            TracePeaks x = hills();
            due("spell(1, NONE)", x.spell(1, NONE), 6);
            due("spell(1, 0)", x.spell(1, 0), 'b');
            due("spell(1, 5)", x.spell(1, 5), '0');
        });
        Sentences.test(36, "NONE: no such ones.", () -> {
            TracePeaks x = hills();
            for (int i : new int[] {-2, 6, 7, 13, LOW, HIGH}) {
                due("spell(1, " + i + ")", x.spell(1, i), NONE);
            }
            for (int peak : new int[] {-1, 4, 5, 48, LOW, HIGH}) {
                due("spell(" + peak + ", NONE)", x.spell(peak, NONE), NONE);
                due("spell(" + peak + ", 0)", x.spell(peak, 0), NONE);
            }
            due("spell(0, NONE) of no TRACE", new TracePeaks().spell(0, NONE), NONE);
            due("spell(0, 0) of no TRACE", new TracePeaks().spell(0, 0), NONE);
        });
    }

    private static void most() {
        Sentences.test(40, "places of KEPT PEAKS added up (0),", () -> {
            TracePeaks x = hills();
            due("most(0)", x.most(0), 3 + 7 + 1 + 9);
            x.noise(20);
            due("most(0) of two", x.most(0), 3 + 7);
            due("the least", Checks.traced("trace 5").most(0), 0);
        });
        Sentences.test(40, "PERSISTENCES of all added up (1),", () -> {
            TracePeaks x = hills();
            due("most(1)", x.most(1), 85 + 40 + 20 + 20 + 10);
            x.noise(999);
            due("most(1), KEPT or not", x.most(1), 175);
            due("the most", Checks.traced("trace" + " 999 0".repeat(24)).most(1), 999 * 24);
        });
        Sentences.test(40, "of KEPT ones (2),", () -> {
            TracePeaks x = hills();
            due("most(2)", x.most(2), 85 + 40 + 20 + 20);
            x.noise(20);
            due("most(2) of two", x.most(2), 85 + 40);
        });
        Sentences.test(40, "AREAS of KEPT ones (3),", () -> {
            TracePeaks x = hills();
            due("most(3)", x.most(3), 100 + 90 + 20 + 20);
            x.noise(999);
            due("most(3) of one", x.most(3), 400 - 50);
        });
        Sentences.test(40, "the most GENERATIONS (4),", () -> {
            TracePeaks x = hills();
            due("most(4)", x.most(4), 2);
            x.noise(999);
            due("most(4), KEPT or not", x.most(4), 2);
            due("the least", Checks.traced("trace 5").most(4), 0);
            due("not of the last one", Checks.traced("trace 6 5 7 0 9 8 9").most(4), 2);
        });
        Sentences.test(40, "MATCHED LINES (5, bits),", () -> {
            TracePeaks x = hills();
            due("most(5)", x.most(5), 15);
            x.noise(20);
            due("most(5) of two", x.most(5), 1 + 2);
            due("without LINES", Checks.traced("trace 5").most(5), 0);
        });
    }

    private static void mostOfAll() {
        Sentences.test(40, "the widest KEPT PEAK (6; of several the lowest),", () -> {
            TracePeaks x = hills();
            due("most(6)", x.most(6), 1);
            due("of several the lowest", Checks.traced("trace 9 0 9 9 0 8 8").most(6), 1);
            due("all alike", Checks.traced("trace 9 0 9").most(6), 0);
            due("one not KEPT is none", Checks.traced("trace 9 0 0 3 3 3;noise 5").most(6), 0);
        });
        Sentences.test(40, "the greatest SAMPLE (7).", () -> {
            due("most(7)", hills().most(7), 90);
            due("the least", Checks.traced("trace 0").most(7), 0);
            due("the most", Checks.traced("trace 5 999").most(7), 999);
        });
        Sentences.test(40, "HIDDEN: no TRACE,", () -> {
            for (int i = 0; i < 8; i++) {
                due("most(" + i + ")", new TracePeaks().most(i), HIDDEN);
            }
        });
        Sentences.test(40, "no such what.", () -> {
            for (int what : new int[] {-1, 8, 9, LOW, HIGH}) {
                due("most(" + what + ")", hills().most(what), HIDDEN);
            }
        });
    }
}
