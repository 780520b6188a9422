/** Terms 1 and promises 1 to 5: the tape, traces and scripts as texts. */
final class SentencesOfTexts {
    private static final int NONE = Sentences.NONE;
    private static final int HIDDEN = Sentences.HIDDEN;
    private static final int LOW = Sentences.LOW;
    private static final int HIGH = Sentences.HIGH;
    private static final String T1 = "Terms 1";
    private static final String EIGHT_LINES =
            "line a 1;line b 2;line c 3;line d 4;line e 5;line f 6;line g 7;line h 8";

    private SentencesOfTexts() {
    }

    static void tell() {
        traces();
        rulesOfTraces();
        lines();
        scripts();
        parts();
        faults();
        faultsOfWords();
        faultsOfNumbers();
        tape();
        fault();
        text();
    }

    private static void due(String call, long got, long want) {
        Checks.due(call, got, want);
    }

    private static String times(String part, int n) {
        return Sentences.times(part, n);
    }

    /** The fault of a text, and that it is taken or refused likewise; the tape stays if it is refused. */
    private static TracePeaks faultDue(int sort, String text, int want) {
        TracePeaks x = Checks.write(new TracePeaks(), text);
        due("fault(" + sort + ") of \"" + text + "\"", x.fault(sort), want);
        int taken = x.text(sort);
        due("text(" + sort + ") of \"" + text + "\" is taken", taken == NONE ? 0 : 1, want == NONE ? 1 : 0);
        due("the tape of \"" + text + "\" then", x.held(2), want == NONE ? 0 : text.length());
        return x;
    }

    private static TracePeaks right(int sort, String text) {
        return faultDue(sort, text, NONE);
    }

    private static void traces() {
        Sentences.test(4, T1, "A TRACE is a TEXT: CLAUSES with ; between, each a WORD and what is its: trace and SAMPLES", () -> {
            right(0, "trace 1");
            right(0, "trace 1;noise 2;reach 3;line a 4");
            faultDue(0, "trace 1 noise 2", 8);
            faultDue(0, "trace 1;;noise 2", 8);
            faultDue(0, ";trace 1", 0);
            faultDue(0, "1 trace", 0);
        });
        Sentences.test(4, T1, "SAMPLES (1 .. 48 numbers", () -> {
            faultDue(0, "trace", 5);
            faultDue(0, "trace;noise 1", 5);
            due("one sample", right(0, "trace 7").held(0), 1);
            due("48 samples", right(0, "trace" + times(" 1", 48)).held(0), 48);
            due("47 samples", right(0, "trace" + times(" 1", 47)).held(0), 47);
            faultDue(0, "trace" + times(" 1", 49), 102);
        });
        Sentences.test(4, T1, "48 numbers 0 .. 999;", () -> {
            TracePeaks x = right(0, "trace 0 999");
            due("sample(0)", x.sample(0), 0);
            due("sample(1)", x.sample(1), 999);
            faultDue(0, "trace 1000", 6);
            faultDue(0, "trace 5 1000", 8);
            faultDue(0, "trace -1", 6);
            faultDue(0, "trace 5 -1", 8);
        });
        Sentences.test(4, T1, "999; once,", () -> {
            faultDue(0, "trace 1;trace 2", 8);
            faultDue(0, "trace 1;noise 1;trace 2", 16);
        });
        Sentences.test(4, T1, "once, must be)", () -> {
            faultDue(0, "noise 3", 7);
            faultDue(0, "noise 3;reach 2;line a 4", 24);
        });
        Sentences.test(4, T1, "in any order.", () -> {
            TracePeaks x = right(0, "line b 5;noise 3;line a 4;trace 1 2;reach 2");
            due("SAMPLES", x.rule(0), 2);
            due("NOISE", x.rule(1), 3);
            due("REACH", x.rule(2), 2);
            due("LINES", x.rule(3), 2);
            right(0, "reach 2;trace 1 2;noise 3");
        });
    }

    private static void rulesOfTraces() {
        Sentences.test(4, T1, "noise (0 .. 999;", () -> {
            due("noise 0", right(0, "noise 0;trace 1").rule(1), 0);
            due("noise 999", right(0, "noise 999;trace 1").rule(1), 999);
            faultDue(0, "noise 1000;trace 1", 6);
            faultDue(0, "noise -1;trace 1", 6);
        });
        Sentences.test(5, T1, "999; 0 without)", () -> {
            TracePeaks x = right(0, "noise 7;trace 1");
            due("another trace", Checks.write(x, "trace 1").text(0), 1);
            due("NOISE", x.rule(1), 0);
        });
        Sentences.test(4, T1, "reach (0 .. 9;", () -> {
            due("reach 0", right(0, "reach 0;trace 1").rule(2), 0);
            due("reach 9", right(0, "reach 9;trace 1").rule(2), 9);
            faultDue(0, "reach 10;trace 1", 6);
            faultDue(0, "reach -1;trace 1", 6);
        });
        Sentences.test(5, T1, "(0 .. 9; 1)", () -> {
            TracePeaks x = right(0, "reach 7;trace 1");
            due("another trace", Checks.write(x, "trace 9 0 0;line a 2;line b 1").text(0), 3);
            due("REACH", x.rule(2), 1);
            due("a line 1 from the peak", x.line(1, 1), 0);
            due("a line 2 from the peak", x.line(0, 1), NONE);
        });
        Sentences.test(4, T1, "both once at most,", () -> {
            right(0, "trace 1");
            faultDue(0, "noise 1;trace 1;noise 2", 16);
            faultDue(0, "noise 0;trace 1;noise 0", 16);
            faultDue(0, "reach 1;trace 1;reach 2", 16);
            faultDue(0, "reach 0;trace 1;reach 0", 16);
        });
    }

    private static void lines() {
        Sentences.test(4, T1, "line, a NAME (letters, 1 to 6,", () -> {
            due("a NAME of 1", right(0, "trace 1;line a 0").line(0, 2), 1);
            due("a NAME of 6", right(0, "trace 1;line abcdef 0").line(0, 2), 6);
            faultDue(0, "trace 1;line abcdefg 0", 13);
            faultDue(0, "trace 1;line 4", 13);
            faultDue(0, "trace 1;line 4a 4", 13);
        });
        Sentences.test(4, T1, "told once;", () -> {
            right(0, "trace 1;line a 4;line ab 4;line b 4");
            faultDue(0, "trace 1;line a 4;line a 5", 22);
            faultDue(0, "trace 1;line abcdef 4;line b 4;line abcdef 4", 36);
        });
        Sentences.test(4, T1, "any WORD)", () -> {
            TracePeaks x = right(0, "line trace 0;line line 1;line noise 2;line reach 3;line smooth 4;trace 1");
            due("letters of smooth", x.line(4, 2), 6);
            due("LINES", x.rule(3), 5);
            due("NOISE", x.rule(1), 0);
        });
        Sentences.test(4, T1, "and a place (0 .. 47);", () -> {
            due("place 0", right(0, "trace 1;line a 0").line(0, 0), 0);
            due("place 47", right(0, "trace 1;line a 47").line(0, 0), 47);
            faultDue(0, "trace 1;line a 48", 15);
            faultDue(0, "trace 1;line a -1", 15);
        });
        Sentences.test(4, T1, "none to 8 LINES, numbered as they come;", () -> {
            due("no LINE", right(0, "trace 1").rule(3), 0);
            TracePeaks x = right(0, EIGHT_LINES + ";trace 1");
            due("eight LINES", x.rule(3), 8);
            for (int i = 0; i < 8; i++) {
                due("line(" + i + ", 0)", x.line(i, 0), i + 1);
            }
            faultDue(0, EIGHT_LINES + ";line i 1;trace 1", 72);
        });
    }

    private static void scripts() {
        Sentences.test(5, T1, "SCRIPTS (4 at most) are TEXTS:", () -> {
            TracePeaks x = new TracePeaks();
            for (int i = 0; i < 4; i++) {
                due("SCRIPT " + i, Checks.script(x, "clip " + i), i);
            }
            due("a fifth SCRIPT", Checks.script(x, "clip 4"), NONE);
            due("held(1)", x.held(1), 4);
            for (int i = 0; i < 4; i++) {
                due("step(" + i + ", 0, 1)", x.step(i, 0, 1), i);
            }
            due("step(4, 0, 0)", x.step(4, 0, 0), HIDDEN);
        });
        Sentences.test(4, T1, "STEPS with ; between, 1 to 12:", () -> {
            faultDue(1, "", 0);
            right(1, "turn");
            due("the 12th STEP", right(1, times("turn;", 11) + "flat").step(0, 11, 0), 2);
            faultDue(1, times("turn;", 12) + "turn", 59);
            faultDue(1, "turn turn", 5);
            faultDue(1, "turn;;turn", 5);
            faultDue(1, ";turn", 0);
        });
        Sentences.test(4, T1, "smooth, median, flat, turn, clip and a number, lift and a number, scale and two, "
                + "set and two, noise and a number, cut and two (see 3).", () -> {
            String[] words = {"smooth", "median", "flat", "turn", "clip", "lift", "scale", "set", "noise", "cut"};
            int[] numbers = {0, 0, 0, 0, 1, 1, 2, 2, 1, 2};
            for (int sort = 0; sort < 10; sort++) {
                String text = words[sort] + times(" 1", numbers[sort]);
                TracePeaks x = right(1, text);
                due("the sort of " + words[sort], x.step(0, 0, 0), sort);
                faultDue(1, text + " 1", text.length() + 1);
                if (numbers[sort] > 0) {
                    faultDue(1, text.substring(0, text.length() - 2), text.length() - 2);
                }
            }
        });
        Sentences.test(4, T1, "Numbers of STEPS: a - or none and one to three digits.", () -> {
            due("-999", right(1, "clip -999").step(0, 0, 1), -999);
            due("-1", right(1, "clip -1").step(0, 0, 1), -1);
            due("-0", right(1, "clip -0").step(0, 0, 1), 0);
            due("999", right(1, "clip 999").step(0, 0, 1), 999);
            due("-5, the second", right(1, "set 3 -5").step(0, 0, 2), -5);
            faultDue(1, "clip 1000", 5);
            faultDue(1, "clip -1000", 5);
            faultDue(1, "clip", 4);
            faultDue(1, "clip --1", 5);
            faultDue(1, "clip +1", 5);
        });
    }

    private static void parts() {
        Sentences.test(4, T1, "A WORD is letters (a to z), as many as stand one behind another;", () -> {
            right(0, "trace 1;line az 1");
            faultDue(0, "trace 1;line `a 1", 13);
            faultDue(0, "trace 1;line a` 1", 14);
            faultDue(0, "trace 1;line {z 1", 13);
            faultDue(0, "trace 1;line z{ 1", 14);
            faultDue(0, "Trace 1", 0);
            faultDue(0, "traCe 1", 0);
            faultDue(0, "tra ce 1", 0);
            faultDue(0, "tracenoise 1", 0);
            faultDue(1, "turnturn", 0);
            due("trace1", right(0, "trace1").sample(0), 1);
        });
        Sentences.test(4, T1, "a number is digits likewise, one to three.", () -> {
            due("three digits", right(0, "trace 123").held(0), 1);
            due("two numbers", right(0, "trace 12 3").held(0), 2);
            due("zeros ahead", right(0, "trace 007").sample(0), 7);
            due("all digits", right(0, "trace 012 345 678 9").rule(7), 12 + 345 + 678 + 9);
            faultDue(0, "trace 1234", 6);
            faultDue(0, "trace 0000", 6);
            faultDue(0, "trace 1/", 7);
            faultDue(0, "trace 1:", 7);
        });
        Sentences.test(4, T1, "Blanks (32) may stand ahead of and behind all these, and ;,", () -> {
            right(0, "  trace  1  2  ;  noise  3  ;  line  a  4  ");
            right(1, "  smooth  ;  clip  4  ;  set  1  -2  ");
            right(1, "clip4;set-1-2;turn");
            right(0, "trace1;noise2;line a4");
            faultDue(0, "trace 1;linea4", 8);
            faultDue(0, "trace\t1", 5);
            faultDue(0, "trace 1\n", 7);
            faultDue(0, "trace 1" + (char) 31, 7);
            faultDue(0, "trace" + (char) 160 + "1", 5);
        });
        Sentences.test(4, T1, "not behind a -.", () -> {
            right(1, "clip  -5");
            faultDue(1, "clip - 5", 5);
            faultDue(1, "set 1 -  2", 6);
        });
    }

    private static void faults() {
        Sentences.test(4, T1, "FAULT: where the first part begins that can't be", () -> {
            faultDue(0, "  foo", 2);
            faultDue(0, "trace  1000", 7);
            faultDue(0, "trace 1  ;  noise  x", 19);
            faultDue(0, "noise 1000;trase 1", 6);
            faultDue(1, "clip 1000;foo", 5);
            faultDue(1, "turn;  foo;clip 1000", 7);
            faultDue(0, ";foo", 0);
            faultDue(0, "trace ;foo", 6);
            faultDue(0, "noise ;foo", 6);
            faultDue(0, "line ;foo", 5);
            faultDue(0, "line a ;foo", 7);
            faultDue(1, "turn;;foo", 5);
            faultDue(1, "clip ;foo", 5);
            faultDue(1, "set 1 ;foo", 6);
        });
        Sentences.test(4, T1, "(the length, if the TEXT ends too early,", () -> {
            String[] traces = {"", "   ", "trace", "trace  ", "trace 1;", "trace 1; ", "noise", "trace 1;noise", "reach ",
                "trace 1;line", "trace 1;line ", "trace 1;line a", "trace 1;line a  ", "noise 1;"};
            for (String text : traces) {
                faultDue(0, text, text.length());
            }
            String[] scripts = {"", "  ", "turn;", "turn; ", "clip", "clip ", "lift", "noise ", "set", "set 1", "set 1 ",
                "scale 1", "cut -1 ", "turn;cut"};
            for (String text : scripts) {
                faultDue(1, text, text.length());
            }
        });
        Sentences.test(4, T1, "or without a trace):", () -> {
            faultDue(0, "noise 3", 7);
            faultDue(0, "noise 3 ", 8);
            faultDue(0, "reach 1", 7);
            faultDue(0, "line trace 4", 12);
            faultDue(0, "line a 4;noise 3;", 17);
        });
        Sentences.test(4, T1, "any other part;", () -> {
            faultDue(0, "trace 1,2", 7);
            faultDue(0, "trace 1 x", 8);
            faultDue(0, "trace 1 -", 8);
            faultDue(0, "noise 1 2;trace 1", 8);
            faultDue(0, "reach 1 2;trace 1", 8);
            faultDue(0, "trace 1;line a 1 2", 17);
            faultDue(0, "trace 1;line a b 1", 15);
            faultDue(0, "trace 1" + (char) 255, 7);
            faultDue(0, (char) 1 + "trace 1", 0);
            faultDue(1, "smooth 1", 7);
            faultDue(1, "smooth -", 7);
            faultDue(1, "clip 1 2", 7);
            faultDue(1, "clip 1-", 6);
            faultDue(1, "set 1 2 3", 8);
            faultDue(1, "1", 0);
            faultDue(1, "turn,turn", 4);
        });
        Sentences.test(4, T1, "the ; ahead of a 13th STEP.", () -> {
            faultDue(1, times("turn;", 12) + "turn", 59);
            faultDue(1, times("turn;", 11) + "turn  ; turn", 61);
            faultDue(1, times("turn;", 11) + "clip 5;turn", 61);
        });
        Sentences.test(5, T1, "(What a STEP tells that can't be is no FAULT.)", () -> {
            right(1, "clip -1;set 99 -5;scale 1 0;scale 100 1;cut 0 0;cut -1 999;lift -999;noise -1;set -1 0");
        });
    }

    private static void faultsOfWords() {
        Sentences.test(4, T1, "a WORD that is none of these,", () -> {
            faultDue(0, "traces 1", 0);
            faultDue(0, "trac 1", 0);
            faultDue(0, "drace 1", 0);
            faultDue(0, "trade 1", 0);
            faultDue(0, "tracf 1", 0);
            faultDue(0, "trace 1;lines a 4", 8);
            faultDue(0, "trace 1;smooth", 8);
            faultDue(0, "a 1;trace 1", 0);
            faultDue(1, "trace 1", 0);
            faultDue(1, "reach 1", 0);
            faultDue(1, "line a 1", 0);
            faultDue(1, "smooth;smo", 7);
            faultDue(1, "smooth;smooths", 7);
            faultDue(1, "clips 1", 0);
        });
        Sentences.test(4, T1, "or was there already (but line),", () -> {
            faultDue(0, "trace 1;trace 1", 8);
            faultDue(0, "noise 1;noise 1", 8);
            faultDue(0, "reach 1;reach 1", 8);
            faultDue(0, "noise 1;noise", 8);
            right(0, "line a 1;line b 1;trace 1");
        });
        Sentences.test(4, T1, "a ninth line;", () -> {
            right(0, EIGHT_LINES + ";trace 1");
            faultDue(0, EIGHT_LINES + ";line i 1;trace 1", 72);
            faultDue(0, EIGHT_LINES + ";trace 1; line", 81);
            faultDue(0, EIGHT_LINES + ";line a 1", 72);
        });
        Sentences.test(4, T1, "a NAME that was told,", () -> {
            faultDue(0, "line a 1;line a 2;trace 1", 14);
            faultDue(0, "line a 1;line b 1;line   b 1;trace 1", 25);
            faultDue(0, "line ab 1;line cb 1;line ab", 25);
            right(0, "line ab 1;line cb 1;line ac 1;line abc 1;line b 1;trace 1");
        });
        Sentences.test(4, T1, "or has seven letters or more;", () -> {
            right(0, "trace 1;line sixsix 4");
            faultDue(0, "trace 1;line sevenss 4", 13);
            faultDue(0, "trace 1;line  eighteig 4", 14);
            faultDue(0, "trace 1;line " + times("a", 300), 13);
        });
    }

    private static void faultsOfNumbers() {
        Sentences.test(4, T1, "a 49th SAMPLE;", () -> {
            right(0, "trace" + times(" 1", 48) + ";noise 1");
            faultDue(0, "trace" + times(" 1", 49), 102);
            faultDue(0, "trace" + times(" 1", 48) + "   1;noise 1", 104);
            faultDue(0, "noise 1;trace" + times(" 10", 60), 158);
        });
        Sentences.test(4, T1, "a number that is none,", () -> {
            faultDue(0, "trace x", 6);
            faultDue(0, "noise ;trace 1", 6);
            faultDue(0, "reach x;trace 1", 6);
            faultDue(0, "trace 1;line a b", 15);
            faultDue(0, "trace 1;line a -4", 15);
            faultDue(0, "trace -0", 6);
            faultDue(0, "noise -0;trace 1", 6);
            faultDue(0, "reach -0;trace 1", 6);
            faultDue(0, "trace 1;line a -0", 15);
            faultDue(1, "clip x", 5);
            faultDue(1, "clip ;turn", 5);
            faultDue(1, "set 1 x", 6);
            faultDue(1, "clip -x", 5);
            faultDue(1, "clip -;turn", 5);
            faultDue(1, "clip -", 5);
        });
        Sentences.test(4, T1, "of more than three digits,", () -> {
            faultDue(0, "trace 1 2 0003 4", 10);
            faultDue(0, "noise 0001;trace 1", 6);
            faultDue(0, "reach 0001;trace 1", 6);
            faultDue(0, "trace 1;line a 0001", 15);
            faultDue(1, "clip 0001", 5);
            faultDue(1, "clip -0001", 5);
            faultDue(1, "set 1 0001", 6);
            faultDue(1, "clip " + times("9", 300), 5);
        });
        Sentences.test(4, T1, "out of its bounds;", () -> {
            right(0, "reach 009;trace 1");
            faultDue(0, "reach 010;trace 1", 6);
            faultDue(0, "reach 999;trace 1", 6);
            right(0, "trace 1;line a 047");
            faultDue(0, "trace 1;line a 048", 15);
            faultDue(0, "trace 1;line a 999", 15);
        });
    }

    private static void tape() {
        Sentences.test(1, "No TRACE.", () -> {
            TracePeaks x = new TracePeaks();
            due("rule(0)", x.rule(0), NONE);
            due("sample(0)", x.sample(0), NONE);
            for (int i = 0; i < 5; i++) {
                due("held(" + i + ")", x.held(i), 0);
            }
            due("status(0)", x.status(0), 0);
            due("status(1)", x.status(1), 0);
        });
        Sentences.test(2, "Twenty bytes more come to the TAPE (of each number the highest first;", () -> {
            TracePeaks x = new TracePeaks();
            due("twenty bytes", x.feed(0x74726163, 0x65203132, 0x33203435, 0x36203738, 0x39203132), 20);
            due("some more", x.feed(0x33000000, 0, 0, 0, 0), 21);
            due("text(0)", x.text(0), 4);
            Checks.samplesDue("trace 123 456 789 123", x, "123 456 789 123");
        });
        Sentences.test(2, "bytes of 0 are left out): how many it has.", () -> {
            TracePeaks x = new TracePeaks();
            due("nothing", x.feed(0, 0, 0, 0, 0), 0);
            due("seven bytes", x.feed(0x74000072, 0x00610063, 0, 0x65, 0x20000031), 7);
            due("text(0)", x.text(0), 1);
            due("bytes above 127", x.feed(-1, LOW, 0x00ff0000, 0x8080, 0x80), 9);
        });
        Sentences.test(2, "NONE: more than 400.", () -> {
            TracePeaks x = new TracePeaks();
            Checks.write(x, times(" ", 380));
            due("up to 400", x.feed(-1, -1, -1, -1, -1), 400);
            due("a byte more", x.feed(0, 0, 0, 0, 1), NONE);
            due("no byte more", x.feed(0, 0, 0, 0, 0), 400);
            due("end(381)", x.end(381) ? 1 : 0, 1);
            due("20 behind 381", x.feed(-1, -1, -1, -1, -1), NONE);
            due("the tape stays", x.held(2), 381);
            due("19 behind 381", x.feed(-1, -1, -1, -1, 0x00ffffff), 400);
        });
        Sentences.test(3, "The TAPE has its first n bytes alone.", () -> {
            TracePeaks x = Checks.write(new TracePeaks(), "trace 12;");
            due("end(9)", x.end(9) ? 1 : 0, 1);
            due("held(2)", x.held(2), 9);
            due("end(7)", x.end(7) ? 1 : 0, 1);
            due("held(2)", x.held(2), 7);
            due("behind it", x.feed(0x35000000, 0, 0, 0, 0), 8);
            due("text(0)", x.text(0), 1);
            due("sample(0)", x.sample(0), 15);
            Checks.write(x, "abc");
            due("end(0)", x.end(0) ? 1 : 0, 1);
            due("held(2)", x.held(2), 0);
            due("end(0) of none", x.end(0) ? 1 : 0, 1);
        });
        Sentences.test(3, "False: n.", () -> {
            TracePeaks x = Checks.write(new TracePeaks(), "trace 12");
            for (int n : new int[] {-1, 9, 400, LOW, HIGH}) {
                due("end(" + n + ")", x.end(n) ? 1 : 0, 0);
                due("held(2)", x.held(2), 8);
            }
            due("end(1) of none", new TracePeaks().end(1) ? 1 : 0, 0);
        });
    }

    private static void fault() {
        Sentences.test(4, "The FAULT of the TAPE as a TRACE (0), a SCRIPT (1).", () -> {
            TracePeaks x = Checks.write(new TracePeaks(), "noise 5;trace 1");
            due("fault(0)", x.fault(0), NONE);
            due("fault(1)", x.fault(1), 8);
            Checks.write(x, "clip 5");
            due("fault(0)", x.fault(0), 0);
            due("fault(1)", x.fault(1), NONE);
            TracePeaks y = Sentences.hills();
            Checks.write(y, "trace 1 2;reach 7;noise 3;line zz 3");
            due("fault(0) of another TRACE", y.fault(0), NONE);
            due("the REACH that is", y.rule(2), 1);
            due("the NOISE that is", y.rule(1), 15);
            due("the LINES that are", y.rule(3), 4);
            due("line(0, 0)", y.line(0, 0), 4);
            due("MISSED", y.missed(), 0);
            y.noise(20);
            due("MISSED of less NOISE", y.missed(), 4 + 8);
            y.noise(15);
            TracePeaks z = Checks.traced("trace 8 0 9;reach 0;line a 9;line b 11");
            due("fault(0) of another TRACE", Checks.write(z, "trace 1;line zz 3").fault(0), NONE);
            due("the SHIFT above 0", z.shift(0), 9);
            due("as it was", Checks.write(z, "trace 0 0 9;reach 0;line b 1").text(0), 3);
            due("fault(0) of another TRACE", Checks.write(z, "trace 1;line zz 3").fault(0), NONE);
            due("the SHIFT below 0", z.shift(0), -1);
            due("the SPELL of its NAME", y.spell(0, 0), 'a');
            Checks.samplesDue("the SAMPLES that are", y, Sentences.HILL_SAMPLES);
        });
        Sentences.test(4, "NONE: none.", () -> {
            TracePeaks x = Checks.write(new TracePeaks(), "trace 1");
            due("fault(0)", x.fault(0), NONE);
            due("the tape stays", x.held(2), 7);
            due("no trace yet", x.held(0), 0);
        });
        Sentences.test(4, "-2: no such sort.", () -> {
            TracePeaks x = Checks.write(new TracePeaks(), "trace 1");
            for (int sort : new int[] {-1, 2, LOW, HIGH}) {
                due("fault(" + sort + ")", x.fault(sort), -2);
            }
        });
    }

    private static void text() {
        Sentences.test(5, "The TAPE (empty then) is the TRACE", () -> {
            TracePeaks x = Checks.write(new TracePeaks(), "trace 4 5");
            due("text(0)", x.text(0), 2);
            due("held(2)", x.held(2), 0);
            Checks.samplesDue("trace 4 5", x, "4 5");
            due("text(0) of an empty tape", x.text(0), NONE);
            due("the trace stays", x.held(0), 2);
        });
        Sentences.test(5, "(all that was of another one is gone but SCRIPTS, STATUS): how many SAMPLES;", () -> {
            TracePeaks x = Sentences.busy();
            x.clip(-1);
            x.set(77, 1);
            x.set(78, 1);
            due("text(0)", Checks.write(x, "trace 5 1 4").text(0), 3);
            due("NOISE", x.rule(1), 0);
            due("REACH", x.rule(2), 1);
            due("LINES", x.rule(3), 0);
            due("the LOG", x.held(3), 0);
            due("log(0, 0)", x.log(0, 0), HIDDEN);
            due("ACTS to be undone", x.held(4), 0);
            due("undo()", x.undo(), NONE);
            due("the IMAGE: unlike()", x.unlike(), NONE);
            due("the IMAGE: back()", x.back(), NONE);
            due("SCRIPTS", x.held(1), 1);
            due("step(0, 0, 1)", x.step(0, 0, 1), 7);
            due("status(0)", x.status(0), 2);
            due("status(1)", x.status(1), 1);
        });
        Sentences.test(5, "a SCRIPT: its number.", () -> {
            TracePeaks x = Sentences.hills();
            due("the first", Checks.script(x, "clip 5"), 0);
            due("the second", Checks.script(x, "lift 6"), 1);
            due("the tape is empty", x.held(2), 0);
            due("the trace stays", x.held(0), 10);
            due("step(0, 0, 1)", x.step(0, 0, 1), 5);
            due("step(1, 0, 1)", x.step(1, 0, 1), 6);
        });
        Sentences.test(5, "NONE: a FAULT (the TAPE stays),", () -> {
            TracePeaks x = Sentences.hills();
            due("text(0)", Checks.write(x, "trace 1 2 x").text(0), NONE);
            due("the tape stays", x.held(2), 11);
            due("the trace stays", x.held(0), 10);
            due("text(1)", Checks.write(x, "clip 5;").text(1), NONE);
            due("the tape stays", x.held(2), 7);
            due("no script", x.held(1), 0);
        });
        Sentences.test(5, "no such sort,", () -> {
            TracePeaks x = Checks.write(new TracePeaks(), "trace 1");
            for (int sort : new int[] {-1, 2, LOW, HIGH}) {
                due("text(" + sort + ")", x.text(sort), NONE);
                due("the tape stays", x.held(2), 7);
            }
        });
        Sentences.test(5, "there are four SCRIPTS.", () -> {
            TracePeaks x = new TracePeaks();
            for (int i = 0; i < 4; i++) {
                Checks.script(x, "turn");
            }
            due("a fifth", Checks.script(x, "flat"), NONE);
            due("the tape stays", x.held(2), 4);
            due("its fault", x.fault(1), NONE);
            due("a trace is taken yet", Checks.write(x, "trace 1").text(0), 1);
        });
    }
}
