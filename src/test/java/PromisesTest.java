/** Each promise of the document by itself, against answers worked out by hand. */
public final class PromisesTest {
    private static final int NONE = TracePeaks.NONE;
    private static final int HIDDEN = TracePeaks.HIDDEN;
    private static final long THROWS = Checks.THROWS;
    private static final int LOW = Integer.MIN_VALUE;
    private static final int HIGH = Integer.MAX_VALUE;

    private PromisesTest() {
    }

    public static void main(String[] args) {
        newObject();
        feed();
        end();
        faultOfTraces();
        faultOfScripts();
        text();
        rule();
        sample();
        peak();
        peaksOfLikeSamples();
        basin();
        at();
        line();
        smooth();
        median();
        flat();
        turn();
        clip();
        lift();
        scale();
        set();
        noise();
        cut();
        ways();
        status();
        undo();
        log();
        logOfManyActs();
        noiseFor();
        pieces();
        room();
        unlike();
        shift();
        missed();
        would();
        solo();
        tallest();
        change();
        spell();
        step();
        run();
        perform();
        most();
        image();
        back();
        held();
        aFullTrace();
        Checks.close("PromisesTest");
    }

    private static void due(String call, long got, long want) {
        Checks.due(call, got, want);
    }

    private static TracePeaks hills() {
        return Sentences.hills();
    }

    // Promise 1

    private static void newObject() {
        TracePeaks x = new TracePeaks();
        due("new: held(0)", x.held(0), 0);
        due("new: held(1)", x.held(1), 0);
        due("new: held(2)", x.held(2), 0);
        due("new: held(3)", x.held(3), 0);
        due("new: held(4)", x.held(4), 0);
        due("new: rule(0)", x.rule(0), NONE);
        due("new: peak(0, 0)", Checks.peak(x, 0, 0), THROWS);
        due("new: status(0)", x.status(0), 0);
        due("new: status(1)", x.status(1), 0);
        due("NONE", TracePeaks.NONE, -1);
        due("HIDDEN", TracePeaks.HIDDEN, -1000000);
    }

    // Promise 2

    private static void feed() {
        TracePeaks x = new TracePeaks();
        due("feed of nothing", x.feed(0, 0, 0, 0, 0), 0);
        due("feed leaves bytes of 0 out", x.feed(0x74000072, 0x00610063, 0, 0x65, 0x20000031), 7);
        due("what was fed is a trace", x.fault(0), NONE);
        TracePeaks y = new TracePeaks();
        due("feed of bytes above 127", y.feed(-1, -1, -1, -1, -1), 20);
        for (int i = 1; i < 20; i++) {
            due("feed " + i, y.feed(0x20202020, 0x20202020, 0x20202020, 0x20202020, 0x20202020), 20 * i + 20);
        }
        due("a byte more than 400", y.feed(0, 0, 0, 0, 1), NONE);
        due("the tape stays", y.held(2), 400);
        due("no byte more than 400", y.feed(0, 0, 0, 0, 0), 400);
        y.end(390);
        due("up to 400 but some", y.feed(0x20202020, 0x20202020, 0x20202000, 0, 0), NONE);
        due("up to 400", y.feed(0x20202020, 0x20202020, 0x20200000, 0, 0), 400);
        y.end(399);
        for (int i = 0; i < 5; i++) {
            due("two bytes behind 399, number " + i, y.feed(i == 0 ? 257 : 0, i == 1 ? 257 : 0, i == 2 ? 257 : 0,
                    i == 3 ? 257 : 0, i == 4 ? 257 : 0), NONE);
            due("the tape stays", y.held(2), 399);
        }
    }

    // Promise 3

    private static void end() {
        TracePeaks x = new TracePeaks();
        Checks.due("end(0) of none", x.end(0), true);
        Checks.due("end(1) of none", x.end(1), false);
        Checks.feed(x, "trace 12");
        Checks.due("end(-1)", x.end(-1), false);
        Checks.due("end(9)", x.end(9), false);
        Checks.due("end(HIGH)", x.end(HIGH), false);
        Checks.due("end(LOW)", x.end(LOW), false);
        due("the tape stays", x.held(2), 8);
        Checks.due("end(8)", x.end(8), true);
        Checks.due("end(7)", x.end(7), true);
        due("the tape is shorter", x.held(2), 7);
        due("its trace", x.text(0), 1);
        due("its sample", x.sample(0), 1);
    }

    // Promise 4

    private static void faultDue(int sort, String text, int want) {
        TracePeaks x = Checks.write(new TracePeaks(), text);
        due("fault(" + sort + ") of \"" + text + "\"", x.fault(sort), want);
        due("the tape stays", x.held(2), text.length());
        due("text(" + sort + ") of \"" + text + "\" is refused or not", Math.min(x.text(sort), 0), want == NONE ? 0 : NONE);
        due("the tape of \"" + text + "\" then", x.held(2), want == NONE ? 0 : text.length());
    }

    private static String times(String part, int n) {
        StringBuilder all = new StringBuilder();
        for (int i = 0; i < n; i++) {
            all.append(part);
        }
        return all.toString();
    }

    private static void faultOfTraces() {
        due("fault(2)", new TracePeaks().fault(2), -2);
        due("fault(-1)", new TracePeaks().fault(-1), -2);
        faultDue(0, "", 0);
        faultDue(0, "   ", 3);
        faultDue(0, "trace", 5);
        faultDue(0, "trace  ", 7);
        faultDue(0, "trace;noise 1", 5);
        faultDue(0, "trace 1;", 8);
        faultDue(0, "trace 1; ", 9);
        faultDue(0, "trace 1;;noise 1", 8);
        faultDue(0, "trace 1; ;noise 1", 9);
        faultDue(0, ";trace 1", 0);
        faultDue(0, "Trace 1", 0);
        faultDue(0, "traces 1", 0);
        faultDue(0, "trac 1", 0);
        faultDue(0, "tra ce 1", 0);
        faultDue(0, "drace 1", 0);
        faultDue(0, "trace1z", 6);
        faultDue(0, " smooth", 1);
        faultDue(0, "trace1", NONE);
        faultDue(0, "trace1;noise2;reach3;linea4", 21);
        faultDue(0, "trace1;noise2;reach3;line a4", NONE);
        faultDue(0, "  trace  1  2  ;  noise  3  ;  line  a  4  ", NONE);
        faultDue(0, "line a 4;noise 3;trace 1", NONE);
        faultDue(0, "noise 3", 7);
        faultDue(0, "noise 3;line a 4", 16);
        faultDue(0, "noise 3 3;trace 1", 8);
        faultDue(0, "noise;trace 1", 5);
        faultDue(0, "noise x;trace 1", 6);
        faultDue(0, "noise -1;trace 1", 6);
        faultDue(0, "noise -0;trace 1", 6);
        faultDue(0, "noise 0;reach 0;trace 0;line z 0;line az 0", NONE);
        faultDue(0, "noise 999;trace 999", NONE);
        faultDue(0, "noise 1000;trace 1", 6);
        faultDue(0, "noise 0001;trace 1", 6);
        faultDue(0, "noise 1;trace 1;noise 1", 16);
        faultDue(0, "reach 9;trace 1", NONE);
        faultDue(0, "reach 09;trace 1", NONE);
        faultDue(0, "reach 10;trace 1", 6);
        faultDue(0, "reach 1;trace 1;reach 1", 16);
        faultDue(0, "trace 1 2 x", 10);
        faultDue(0, "trace 1x", 7);
        faultDue(0, "trace 1 2 -3", 10);
        faultDue(0, "trace 1 2 1000 4", 10);
        faultDue(0, "trace 1,2", 7);
        faultDue(0, "trace\t1", 5);
        faultDue(0, "trace 1;trace 2", 8);
        faultDue(0, "trace 1" + (char) 233, 7);
        faultDue(0, "trace" + times(" 1", 48), NONE);
        faultDue(0, "trace" + times(" 1", 48) + ";noise 2", NONE);
        faultDue(0, "trace" + times(" 1", 49), 102);
        faultDue(0, "trace" + times(" 1", 48) + " 12345", 102);
        faultDue(0, "trace" + times(" 1", 48) + " x", 102);
        faultOfLines();
    }

    private static void faultOfLines() {
        faultDue(0, "trace 1;line", 12);
        faultDue(0, "trace 1;line ;", 13);
        faultDue(0, "trace 1;line 4", 13);
        faultDue(0, "trace 1;line a", 14);
        faultDue(0, "trace 1;line a;", 14);
        faultDue(0, "trace 1;line a b", 15);
        faultDue(0, "trace 1;line A 1", 13);
        faultDue(0, "trace 1;line abcdef 47", NONE);
        faultDue(0, "trace 1;line abcdefg 4", 13);
        faultDue(0, "trace 1;line a 48", 15);
        faultDue(0, "trace 1;line a 4 4", 17);
        faultDue(0, "trace 1;line a 4;line a 5", 22);
        faultDue(0, "trace 1;line a 4;line ab 4;line b 4", NONE);
        faultDue(0, "trace 1;line ab 4;line abc 4;line ab 5", 34);
        faultDue(0, "line trace 0;line line 1;line noise 2;trace 1", NONE);
        String eight = "line a 1;line b 1;line c 1;line d 1;line e 1;line f 1;line g 1;line h 1";
        faultDue(0, eight + ";trace 1", NONE);
        faultDue(0, eight + ";line i 1;trace 1", 72);
        faultDue(0, eight + ";line", 72);
    }

    private static void faultOfScripts() {
        faultDue(1, "", 0);
        faultDue(1, " ", 1);
        faultDue(1, "smooth", NONE);
        faultDue(1, " smooth ; median;flat;turn;clip 1;lift 2;scale 3 4;set 5 6;noise 7;cut 8 9 ", NONE);
        faultDue(1, "trace 1", 0);
        faultDue(1, "smooth;smo", 7);
        faultDue(1, "smooth 1", 7);
        faultDue(1, "smooth;", 7);
        faultDue(1, "turn turn", 5);
        faultDue(1, "clip", 4);
        faultDue(1, "clip ", 5);
        faultDue(1, "clip;", 4);
        faultDue(1, "clip x", 5);
        faultDue(1, "clip -5", NONE);
        faultDue(1, "clip-5", NONE);
        faultDue(1, "clip - 5", 5);
        faultDue(1, "clip --5", 5);
        faultDue(1, "clip -", 5);
        faultDue(1, "clip 5-", 6);
        faultDue(1, "clip -1000", 5);
        faultDue(1, "clip 1000", 5);
        faultDue(1, "clip -999;clip 999", NONE);
        faultDue(1, "clip 1 2", 7);
        faultDue(1, "scale 1", 7);
        faultDue(1, "scale 1;", 7);
        faultDue(1, "scale 1 -2", NONE);
        faultDue(1, "scale 1-2", NONE);
        faultDue(1, "scale 1 2000", 8);
        faultDue(1, "set 999 -999", NONE);
        faultDue(1, "set 1 2 3", 8);
        faultDue(1, "noise", 5);
        faultDue(1, "cut 1 x", 6);
        faultDue(1, times("turn;", 11) + "turn", NONE);
        faultDue(1, times("turn;", 12) + "turn", 59);
        faultDue(1, times("turn;", 11) + "turn  ;", 61);
        faultDue(1, times("turn;", 11) + "turn x", 60);
    }

    // Promise 5

    private static void text() {
        TracePeaks x = new TracePeaks();
        due("text(2)", Checks.write(x, "trace 1 2 3").text(2), NONE);
        due("text(-1)", x.text(-1), NONE);
        due("the tape stays", x.held(2), 11);
        due("text(0)", x.text(0), 3);
        due("the tape is empty", x.held(2), 0);
        due("text(0) of nothing", x.text(0), NONE);
        due("the trace stays", x.rule(0), 3);
        for (int i = 0; i < 4; i++) {
            due("script " + i, Checks.script(x, "clip " + i), i);
        }
        due("a fifth script", Checks.script(x, "turn"), NONE);
        due("its tape stays", x.held(2), 4);
        due("four scripts", x.held(1), 4);
        x.smooth();
        x.image();
        x.clip(-1);
        x.set(77, 1);
        due("another trace", Checks.write(x, "trace 5 1;line a 0;reach 3;noise 2").text(0), 2);
        due("its log", x.held(3), 0);
        due("its undo", x.undo(), NONE);
        due("its image", x.back(), NONE);
        due("its image", x.unlike(), NONE);
        due("scripts stay", x.step(3, 0, 1), 3);
        due("status stays", x.status(0), 1);
        due("status stays", x.status(1), 1);
        due("its reach", x.rule(2), 3);
        Checks.write(x, "trace 4").text(0);
        due("reach is 1 again", x.rule(2), 1);
        due("noise is 0 again", x.rule(1), 0);
        due("lines are gone", x.rule(3), 0);
    }

    // Promise 6

    private static void rule() {
        TracePeaks x = hills();
        due("rule(0)", x.rule(0), 10);
        due("rule(1)", x.rule(1), 15);
        due("rule(2)", x.rule(2), 1);
        due("rule(3)", x.rule(3), 4);
        due("rule(4)", x.rule(4), 5);
        due("rule(5)", x.rule(5), 4);
        due("rule(6)", x.rule(6), 5);
        due("rule(7)", x.rule(7), 400);
        due("rule(8)", x.rule(8), NONE);
        due("rule(-1)", x.rule(-1), NONE);
        for (int i = 0; i < 8; i++) {
            due("rule(" + i + ") of no trace", new TracePeaks().rule(i), NONE);
        }
    }

    // Promise 7

    private static void sample() {
        TracePeaks x = hills();
        due("sample(0)", x.sample(0), 10);
        due("sample(9)", x.sample(9), 25);
        due("sample(10)", x.sample(10), NONE);
        due("sample(-1)", x.sample(-1), NONE);
        due("sample(HIGH)", x.sample(HIGH), NONE);
        due("sample(LOW)", x.sample(LOW), NONE);
        due("sample(0) of no trace", new TracePeaks().sample(0), NONE);
    }

    // Promise 8

    private static void peak() {
        TracePeaks x = hills();
        long[][] want = {
            {3, 90, NONE, 5, 85, NONE, 1, 0, 0},
            {7, 70, 4, 30, 40, 0, 1, 1, 1},
            {1, 40, 2, 20, 20, 0, 1, 1, 3},
            {9, 25, 8, 5, 20, 0, 1, 1, 2},
            {5, 60, 6, 50, 10, 1, 0, 2, NONE},
        };
        for (int i = 0; i < 5; i++) {
            for (int what = 0; what < 9; what++) {
                due("peak(" + i + ", " + what + ")", Checks.peak(x, i, what), want[i][what]);
            }
        }
        due("peak(5, 0)", Checks.peak(x, 5, 0), THROWS);
        due("peak(-1, 0)", Checks.peak(x, -1, 0), THROWS);
        due("peak(0, 9)", Checks.peak(x, 0, 9), THROWS);
        due("peak(0, -1)", Checks.peak(x, 0, -1), THROWS);
        due("peak(LOW, HIGH)", Checks.peak(x, LOW, HIGH), THROWS);
        x.noise(20);
        due("persistence of 20 is not above noise of 20", Checks.peak(x, 2, 6), 0);
        due("what is not kept takes no line", Checks.peak(x, 2, 8), NONE);
    }

    private static void peaksOfLikeSamples() {
        TracePeaks x = Checks.traced("trace 5 5 5");
        due("flat trace: peaks", x.rule(4), 1);
        due("flat trace: kept", x.rule(5), 1);
        due("flat trace: place", Checks.peak(x, 0, 0), 0);
        due("flat trace: persistence", Checks.peak(x, 0, 4), 0);
        // The left 3 begins a peak, the one beside it joins it to the 5 at its own height.
        TracePeaks y = Checks.traced("trace 3 3 5");
        due("ledge: peaks", y.rule(4), 2);
        due("ledge: persistence", Checks.peak(y, 1, 4), 0);
        due("ledge: valley", Checks.peak(y, 1, 2), 1);
        due("ledge: kept", Checks.peak(y, 1, 6), 0);
        // Of two like heights the left one came first, and stays.
        TracePeaks z = Checks.traced("trace 9 1 9 1 9");
        due("like: first", Checks.peak(z, 0, 0), 0);
        due("like: second", Checks.peak(z, 1, 0), 2);
        due("like: third", Checks.peak(z, 2, 0), 4);
        due("like: its parent is the first that came", Checks.peak(z, 2, 5), 0);
        due("like: least twice", Checks.peak(z, 0, 3), 1);
        TracePeaks one = Checks.traced("trace 7");
        due("one sample: height", Checks.peak(one, 0, 1), 7);
        due("one sample: death", Checks.peak(one, 0, 3), 7);
    }

    // Promise 9

    private static void basin() {
        TracePeaks x = hills();
        long[][] want = {{2, 3, 100, 1}, {4, 7, 90, 3}, {0, 1, 20, 1}, {8, 9, 20, 1}};
        for (int i = 0; i < 4; i++) {
            for (int what = 0; what < 4; what++) {
                due("basin(" + i + ", " + what + ")", x.basin(i, what), want[i][what]);
            }
        }
        due("basin of one not kept", x.basin(4, 0), NONE);
        due("basin(5, 0)", x.basin(5, 0), NONE);
        due("basin(-1, 0)", x.basin(-1, 0), NONE);
        due("basin(0, 4)", x.basin(0, 4), NONE);
        due("basin(0, -1)", x.basin(0, -1), NONE);
        due("basin(0, 0) of no trace", new TracePeaks().basin(0, 0), NONE);
        TracePeaks y = Checks.traced("trace 9 4 2 3 2 5 8;noise 1");
        due("the first of several least", y.basin(0, 1), 1);
        due("belongs to the right one", y.basin(1, 0), 2);
        due("up to the end", y.basin(1, 1), 6);
        // Persistence 7, half of it is 3: no less than 6. The basin is no bound of the width.
        TracePeaks w = Checks.traced("trace 9 7 6 5 2");
        due("half is cut", w.basin(0, 3), 3);
        due("the whole trace", w.basin(0, 1), 4);
        due("width up to the end", Checks.traced("trace 0 8 9 8").basin(0, 3), 3);
        TracePeaks two = Checks.traced("trace 9 4 2 8;noise 1");
        due("the least stands beside the right one", two.basin(1, 0), 2);
        due("the left one ends ahead of it", two.basin(0, 1), 1);
        TracePeaks v = Checks.traced("trace 8 9 7 8 0;noise 2");
        due("width goes over what is not kept", v.basin(0, 3), 4);
        TracePeaks u = Checks.traced("trace 20 15 18 0");
        due("width goes beyond the basin", u.basin(0, 3), 3);
        due("which ends ahead", u.basin(0, 1), 0);
    }

    // Promise 10

    private static void at() {
        TracePeaks x = hills();
        int[] begins = {NONE, 2, NONE, 0, NONE, 4, NONE, 1, NONE, 3};
        int[] basins = {2, 2, 0, 0, 1, 1, 1, 1, 3, 3};
        for (int i = 0; i < 10; i++) {
            due("at(" + i + ", 0)", x.at(i, 0), begins[i]);
            due("at(" + i + ", 1)", x.at(i, 1), basins[i]);
        }
        due("at(10, 0)", x.at(10, 0), NONE);
        due("at(10, 1)", x.at(10, 1), NONE);
        due("at(-1, 1)", x.at(-1, 1), NONE);
        due("at(3, 2)", x.at(3, 2), NONE);
        due("at(3, -1)", x.at(3, -1), NONE);
        due("at(0, 1) of no trace", new TracePeaks().at(0, 1), NONE);
    }

    // Promise 11

    private static void line() {
        TracePeaks x = hills();
        int[][] want = {{4, 0, 5}, {8, 1, 1}, {8, 3, 1}, {0, 2, 1}};
        for (int i = 0; i < 4; i++) {
            for (int what = 0; what < 3; what++) {
                due("line(" + i + ", " + what + ")", x.line(i, what), want[i][what]);
            }
        }
        due("line(4, 0)", x.line(4, 0), NONE);
        due("line(-1, 0)", x.line(-1, 0), NONE);
        due("line(0, 3)", x.line(0, 3), NONE);
        due("line(0, -1)", x.line(0, -1), NONE);
        due("line(0, 0) of no trace", new TracePeaks().line(0, 0), NONE);
        TracePeaks far = Checks.traced("trace 9 1 1 1 1;line a 3;line b 2;line c 2;reach 1");
        due("no further than reach", far.line(1, 1), NONE);
        TracePeaks near = Checks.traced("trace 9 1 1 1 1;line a 3;line b 2;line c 2;reach 2");
        due("the nearest", near.line(0, 1), NONE);
        due("of several the lowest", near.line(1, 1), 0);
        due("but one", near.line(2, 1), NONE);
        TracePeaks taken = Checks.traced("trace 9 1 8;line a 1;line b 47;reach 1");
        due("the first peak takes it", taken.line(0, 1), 0);
        due("the next one does not", Checks.peak(taken, 1, 8), NONE);
        TracePeaks sides = Checks.traced("trace 1 1 9 1 1;line a 3;line b 1");
        due("on both sides as near: the lowest line", sides.line(0, 1), 0);
        due("on both sides as near: not the other", sides.line(1, 1), NONE);
    }

    // Promises 12 to 15

    private static void refusedWithoutTrace(String call, TracePeaks x, int answer) {
        due(call + " of no trace", answer, NONE);
        due(call + " of no trace: status(0)", x.status(0), 1);
        due(call + " of no trace: status(1)", x.status(1), 0);
        due(call + " of no trace: log", x.held(3), 0);
    }

    private static void smooth() {
        TracePeaks x = hills();
        due("smooth()", x.smooth(), 1);
        Checks.samplesDue("smooth()", x, "17 27 42 57 52 50 57 48 26 20");
        TracePeaks one = Checks.traced("trace 7");
        one.smooth();
        due("smooth() of one sample", one.sample(0), 7);
        TracePeaks none = new TracePeaks();
        refusedWithoutTrace("smooth()", none, none.smooth());
    }

    private static void median() {
        TracePeaks x = hills();
        due("median()", x.median(), 1);
        Checks.samplesDue("median()", x, "10 20 40 30 60 50 60 50 25 25");
        TracePeaks two = Checks.traced("trace 7 3");
        two.median();
        Checks.samplesDue("median() of two", two, "7 3");
        TracePeaks none = new TracePeaks();
        refusedWithoutTrace("median()", none, none.median());
    }

    private static void flat() {
        TracePeaks x = hills();
        due("flat()", x.flat(), 1);
        Checks.samplesDue("flat()", x, "10 40 20 90 30 50 50 70 5 25");
        x.noise(40);
        due("flat() of more", x.flat(), 5);
        Checks.samplesDue("flat() of more", x, "10 20 20 90 30 30 30 30 5 5");
        x.noise(999);
        due("flat() of nothing above", x.flat(), 0);
        TracePeaks nested = Checks.traced("trace 90 10 40 30 50 20 60;noise 60");
        due("flat() of one in another", nested.flat(), 5);
        due("down to what is 1 above", Checks.traced("trace 90 10 11 12 11 10;noise 5").flat(), 3);
        Checks.samplesDue("of several the least", nested, "90 10 10 10 10 10 10");
        TracePeaks none = new TracePeaks();
        refusedWithoutTrace("flat()", none, none.flat());
    }

    private static void turn() {
        TracePeaks x = hills();
        due("turn()", x.turn(), 25);
        Checks.samplesDue("turn()", x, "25 5 70 50 60 30 90 20 40 10");
        due("place of peak 0", Checks.peak(x, 0, 0), 6);
        TracePeaks odd = Checks.traced("trace 1 2 3");
        odd.turn();
        Checks.samplesDue("turn() of three", odd, "3 2 1");
        TracePeaks none = new TracePeaks();
        refusedWithoutTrace("turn()", none, none.turn());
    }

    // Promises 16 to 21

    private static void outOfBounds(String call, TracePeaks x, int answer) {
        due(call, answer, NONE);
        due(call + ": status(0)", x.status(0), 0);
        due(call + ": status(1)", x.status(1), 1);
        due(call + ": log", x.held(3), 0);
        due(call + ": undo", x.held(4), 0);
        Checks.samplesDue(call, x, "10 40 20 90 30 60 50 70 5 25");
        due(call + ": noise", x.rule(1), 15);
    }

    private static void clip() {
        TracePeaks x = hills();
        due("clip(999)", x.clip(999), 0);
        due("clip(50)", x.clip(50), 3);
        Checks.samplesDue("clip(50)", x, "10 40 20 50 30 50 50 50 5 25");
        due("clip(0)", x.clip(0), 10);
        for (int n : new int[] {-1, 1000, LOW, HIGH}) {
            TracePeaks y = hills();
            outOfBounds("clip(" + n + ")", y, y.clip(n));
        }
        TracePeaks none = new TracePeaks();
        refusedWithoutTrace("clip(-1)", none, none.clip(-1));
    }

    private static void lift() {
        TracePeaks x = hills();
        due("lift(-20)", x.lift(-20), 0);
        Checks.samplesDue("lift(-20)", x, "0 20 0 70 10 40 30 50 0 5");
        due("lift(0) with the least at place 0", Checks.traced("trace 1 2").lift(0), 1);
        due("lift(950)", x.lift(950), 950);
        Checks.samplesDue("lift(950)", x, "950 970 950 999 960 990 980 999 950 955");
        due("lift(999)", x.lift(999), 999);
        due("lift(-999)", x.lift(-999), 0);
        for (int n : new int[] {-1000, 1000, LOW, HIGH}) {
            TracePeaks y = hills();
            outOfBounds("lift(" + n + ")", y, y.lift(n));
        }
        TracePeaks none = new TracePeaks();
        refusedWithoutTrace("lift(1000)", none, none.lift(1000));
    }

    private static void scale() {
        TracePeaks x = hills();
        due("scale(3, 7)", x.scale(3, 7), 38);
        Checks.samplesDue("scale(3, 7)", x, "4 17 8 38 12 25 21 30 2 10");
        due("scale(99, 1)", x.scale(99, 1), 999);
        Checks.samplesDue("scale(99, 1)", x, "396 999 792 999 999 999 999 999 198 990");
        due("scale(99, 99)", x.scale(99, 99), 999);
        due("scale(0, 1)", x.scale(0, 1), 0);
        int[][] bad = {{-1, 1}, {100, 1}, {1, 0}, {1, 100}, {1, -1}, {LOW, HIGH}, {HIGH, LOW}};
        for (int[] n : bad) {
            TracePeaks y = hills();
            outOfBounds("scale(" + n[0] + ", " + n[1] + ")", y, y.scale(n[0], n[1]));
        }
        TracePeaks none = new TracePeaks();
        refusedWithoutTrace("scale(1, 0)", none, none.scale(1, 0));
    }

    private static void set() {
        TracePeaks x = hills();
        due("set(9, 999)", x.set(9, 999), 25);
        due("set(0, 0)", x.set(0, 0), 10);
        Checks.samplesDue("set", x, "0 40 20 90 30 60 50 70 5 999");
        due("peak 0", Checks.peak(x, 0, 0), 9);
        outOfBoundsOfSet(1000);
        outOfBoundsOfSet(-1);
        outOfBoundsOfSet(HIGH);
        for (int place : new int[] {-1, 10, LOW, HIGH}) {
            TracePeaks y = hills();
            due("set(" + place + ", 1000)", y.set(place, 1000), NONE);
            due("no such place is the first: status(0)", y.status(0), 1);
            due("no such place is the first: status(1)", y.status(1), 0);
        }
        TracePeaks none = new TracePeaks();
        refusedWithoutTrace("set(0, -1)", none, none.set(0, -1));
    }

    private static void outOfBoundsOfSet(int n) {
        TracePeaks y = hills();
        outOfBounds("set(3, " + n + ")", y, y.set(3, n));
    }

    private static void noise() {
        TracePeaks x = hills();
        due("noise(20)", x.noise(20), 15);
        due("kept", x.rule(5), 2);
        due("noise(999)", x.noise(999), 20);
        due("peak 0 is always kept", x.rule(5), 1);
        due("noise(0)", x.noise(0), 999);
        due("kept", x.rule(5), 5);
        for (int n : new int[] {-1, 1000, LOW, HIGH}) {
            TracePeaks y = hills();
            outOfBounds("noise(" + n + ")", y, y.noise(n));
        }
        TracePeaks none = new TracePeaks();
        refusedWithoutTrace("noise(1)", none, none.noise(1));
    }

    private static void cut() {
        TracePeaks x = hills();
        due("cut(0, 10)", x.cut(0, 10), 0);
        due("cut(3, 5)", x.cut(3, 5), 5);
        Checks.samplesDue("cut(3, 5)", x, "90 30 60 50 70");
        due("lines stay", x.line(0, 0), 4);
        due("cut(4, 1)", x.cut(4, 1), 4);
        Checks.samplesDue("cut(4, 1)", x, "70");
        int[][] bad = {{0, 0}, {0, 11}, {9, 2}, {0, -1}, {1, HIGH}, {9, HIGH}, {0, LOW}};
        for (int[] n : bad) {
            TracePeaks y = hills();
            outOfBounds("cut(" + n[0] + ", " + n[1] + ")", y, y.cut(n[0], n[1]));
        }
        for (int place : new int[] {-1, 10, LOW, HIGH}) {
            TracePeaks y = hills();
            due("cut(" + place + ", 0)", y.cut(place, 0), NONE);
            due("no such place is the first: status(0)", y.status(0), 1);
            due("no such place is the first: status(1)", y.status(1), 0);
        }
        TracePeaks none = new TracePeaks();
        refusedWithoutTrace("cut(0, 0)", none, none.cut(0, 0));
    }

    // Promise 22

    private static void ways() {
        TracePeaks x = hills();
        TracePeaks y = hills();
        due("ways(40, 7)", x.ways(40, 7), x.rule(5));
        SentencesOfLogs.byHand(y, 40, 7);
        Checks.samplesDue("ways(40, 7)", x, Checks.samples(y));
        due("its log", x.held(3), 40);
        for (int i = 0; i < 40; i++) {
            for (int what = 0; what < 3; what++) {
                due("its log(" + i + ", " + what + ")", x.log(i, what), y.log(i, what));
            }
        }
        TracePeaks low = hills();
        TracePeaks hand = hills();
        low.ways(3, Long.MIN_VALUE);
        SentencesOfLogs.byHand(hand, 3, Long.MIN_VALUE);
        Checks.samplesDue("ways(3, the least seed)", low, Checks.samples(hand));
        for (int n : new int[] {0, 41, -1, LOW, HIGH}) {
            TracePeaks z = hills();
            due("ways(" + n + ")", z.ways(n, 1), NONE);
            due("ways(" + n + "): status", z.status(0) + z.status(1), 0);
            due("ways(" + n + "): log", z.held(3), 0);
        }
        TracePeaks once = hills();
        TracePeaks byHand = hills();
        once.ways(1, 99);
        SentencesOfLogs.byHand(byHand, 1, 99);
        Checks.samplesDue("ways(1, 99)", once, Checks.samples(byHand));
        due("ways(1, 99): log", once.held(3), 1);
        due("ways of no trace", new TracePeaks().ways(1, 1), NONE);
        TracePeaks none = new TracePeaks();
        none.ways(1, 1);
        due("ways of no trace: status", none.status(0), 0);
    }

    // Promise 23

    private static void status() {
        TracePeaks x = hills();
        x.set(10, 1);
        x.cut(10, 1);
        x.clip(1000);
        due("status(0)", x.status(0), 2);
        due("status(1)", x.status(1), 1);
        due("status(2)", x.status(2), NONE);
        due("status(-1)", x.status(-1), NONE);
        x.clip(5);
        x.undo();
        due("status(0) is not undone", x.status(0), 2);
        x.image();
        x.clip(-1);
        x.back();
        due("status(1) does not come back", x.status(1), 2);
        x.would(10, 1, 0);
        x.pieces(-1);
        x.ways(0, 0);
        x.text(0);
        due("no acts: status(0)", x.status(0), 2);
        due("no acts: status(1)", x.status(1), 2);
    }

    // Promise 24

    private static void undo() {
        TracePeaks x = hills();
        due("undo() of none", x.undo(), NONE);
        x.noise(3);
        x.cut(3, 2);
        x.set(0, 8);
        due("undo() of set", x.undo(), 2);
        Checks.samplesDue("undo() of set", x, "90 30");
        due("undo() of cut", x.undo(), 1);
        Checks.samplesDue("undo() of cut", x, "10 40 20 90 30 60 50 70 5 25");
        due("kept then", x.rule(5), 5);
        due("the log", x.held(3), 1);
        due("undo() of noise", x.undo(), 0);
        due("noise", x.rule(1), 15);
        due("kept then", x.rule(5), 4);
        due("undo() of none", x.undo(), NONE);
        TracePeaks many = hills();
        for (int i = 0; i < 41; i++) {
            many.set(0, 100 + i);
        }
        due("the latest 40", many.held(4), 40);
        for (int i = 0; i < 40; i++) {
            due("undo " + i, many.undo(), 39 - i);
        }
        due("sample then", many.sample(0), 100);
        due("log then", many.held(3), 1);
        due("no more", many.undo(), NONE);
        due("log of no change", x.turn() + x.undo(), 25);
    }

    // Promise 25

    private static void log() {
        TracePeaks x = hills();
        due("log(0, 0) of none", x.log(0, 0), HIDDEN);
        x.smooth();
        x.undo();
        int[][] want = {{4, 80, 4}, {5, -3, 4}, {6, 2, 5}, {7, 9, 5}, {8, 999, 1}, {9, 2, 1}, {0, 0, 1}, {1, 0, 1}, {2, 0, 1}, {3, 0, 1}};
        x.clip(80);
        x.lift(-3);
        x.scale(2, 1);
        x.set(9, 0);
        x.set(9, 50);
        x.undo();
        x.undo();
        x.set(9, 50);
        x.noise(999);
        x.cut(2, 5);
        x.smooth();
        x.median();
        x.flat();
        x.turn();
        for (int i = 0; i < want.length; i++) {
            for (int what = 0; what < 3; what++) {
                due("log of act " + i + ", " + what, x.log(want.length - 1 - i, what), want[i][what]);
            }
        }
        due("log(10, 0)", x.log(10, 0), HIDDEN);
        due("log(-1, 0)", x.log(-1, 0), HIDDEN);
        due("log(0, 3)", x.log(0, 3), HIDDEN);
        due("log(0, -1)", x.log(0, -1), HIDDEN);
        due("log(HIGH, 0)", x.log(HIGH, 0), HIDDEN);
        TracePeaks many = hills();
        for (int i = 0; i < 75; i++) {
            many.set(0, i);
            many.set(1, i);
            many.undo();
        }
        many.clip(700);
        due("log of 60", many.held(3), 60);
        due("log(0, 1)", many.log(0, 1), 700);
        due("log(59, 0)", many.log(59, 0), 7);
        due("log(60, 0)", many.log(60, 0), HIDDEN);
        due("undo()", many.undo(), 39);
        due("what had been pushed out is back", many.held(3), 60);
        due("log(0, 0)", many.log(0, 0), 7);
        due("log(59, 0)", many.log(59, 0), 7);
    }

    /** More acts than the log tells and more than can be undone, twice. */
    private static void logOfManyActs() {
        TracePeaks x = hills();
        for (int i = 0; i < 170; i++) {
            x.clip(i);
        }
        clipsDue(x, 169);
        due("undo() of 40", Sentences.undoAll(x), 40);
        clipsDue(x, 129);
        for (int i = 130; i < 170; i++) {
            x.clip(1000 - i);
        }
        due("undo() of 40 more", Sentences.undoAll(x), 40);
        clipsDue(x, 129);
    }

    private static void clipsDue(TracePeaks x, int latest) {
        due("log of 60", x.held(3), 60);
        for (int i = 0; i < 60; i++) {
            due("latest clip " + latest + ": log(" + i + ", 1)", x.log(i, 1), latest - i);
        }
        due("log(60, 1)", x.log(60, 1), HIDDEN);
    }

    // Promises 26 to 29

    private static void noiseFor() {
        TracePeaks x = hills();
        int[] want = {40, 20, 20, 10, 0, 0};
        for (int k = 1; k <= 6; k++) {
            due("noiseFor(" + k + ")", x.noiseFor(k), want[k - 1]);
        }
        due("noiseFor(48)", x.noiseFor(48), 0);
        due("noiseFor(0)", x.noiseFor(0), NONE);
        due("noiseFor(49)", x.noiseFor(49), NONE);
        due("noiseFor(LOW)", x.noiseFor(LOW), NONE);
        due("noise stays", x.rule(1), 15);
        due("noiseFor(1) of no trace", new TracePeaks().noiseFor(1), NONE);
    }

    private static void pieces() {
        TracePeaks x = hills();
        due("pieces(0)", x.pieces(0), 1);
        due("pieces(25)", x.pieces(25), 3);
        due("pieces(26)", x.pieces(26), 2);
        due("pieces(50)", x.pieces(50), 2);
        due("pieces(51)", x.pieces(51), 3);
        due("pieces(91)", x.pieces(91), 0);
        due("pieces(999)", x.pieces(999), 0);
        due("pieces(-1)", x.pieces(-1), NONE);
        due("pieces(1000)", x.pieces(1000), NONE);
        due("pieces(1) of no trace", new TracePeaks().pieces(1), NONE);
    }

    private static void room() {
        TracePeaks x = hills();
        due("room(0)", x.room(0), 4);
        due("room(1)", x.room(1), 5);
        due("room(2)", x.room(2), NONE);
        due("room(-1)", x.room(-1), NONE);
        x.noise(40);
        due("only peak 0: to grow", x.room(0), 959);
        due("only peak 0: to fall", x.room(1), 0);
        x.noise(3);
        due("all: to grow", x.room(0), 6);
        due("all: to fall", x.room(1), 3);
        due("two are kept", Checks.traced("trace 9 0 5").room(0), 4);
        due("room(0) of no trace", new TracePeaks().room(0), NONE);
    }

    private static void unlike() {
        TracePeaks x = hills();
        due("unlike() without an image", x.unlike(), NONE);
        x.image();
        due("unlike() as it is", x.unlike(), 0);
        x.noise(0);
        due("noise does not matter", x.unlike(), 0);
        x.set(9, 5);
        due("one peak less", x.unlike(), 20 - 10 + 10);
        x.set(3, 999);
        due("one grew", x.unlike(), 20 + 909);
        x.cut(0, 1);
        due("all but one are gone", x.unlike(), 175);
        x.image();
        x.set(0, 0);
        x.undo();
        x.lift(-10);
        due("one lower, as unlike", x.unlike(), 0);
        TracePeaks more = Checks.traced("trace 9 1 8 1 7 1 6");
        more.would(0, 8, 0);
        more.cut(0, 1);
        more.image();
        more.undo();
        due("more than in the image", more.unlike(), 8 + 7 + 6 + 5);
        due("unlike() of no trace", new TracePeaks().unlike(), NONE);
    }

    // Promises 30 to 36

    private static void shift() {
        TracePeaks x = hills();
        due("all are matched: shift(0)", x.shift(0), 0);
        due("all are matched: shift(1)", x.shift(1), 4);
        due("shift(2)", x.shift(2), HIDDEN);
        due("shift(-1)", x.shift(-1), HIDDEN);
        due("shift(0) of no trace", new TracePeaks().shift(0), HIDDEN);
        TracePeaks low = Checks.traced("trace 0 0 0 9 0 0 0;reach 0;line a 1;line b 5");
        due("below 0 first", low.shift(0), -2);
        due("how many", low.shift(1), 1);
        TracePeaks near = Checks.traced("trace 0 0 0 9 0 0 0;reach 0;line a 1;line b 4");
        due("nearest to 0", near.shift(0), 1);
        TracePeaks far = Checks.traced("trace 9 0 8;reach 0;line a 9;line b 11");
        due("up to 9", far.shift(0), 9);
        due("up to 9: how many", far.shift(1), 2);
        TracePeaks beyond = Checks.traced("trace 9;reach 0;line a 10");
        due("not 10", beyond.shift(0), 0);
        due("not 10: how many", beyond.shift(1), 0);
        TracePeaks down = Checks.traced("trace 0 0 0 0 0 0 0 0 0 9;reach 0;line a 0");
        due("down to -9", down.shift(0), -9);
        due("down to -9: how many", down.shift(1), 1);
    }

    private static void missed() {
        TracePeaks x = hills();
        due("missed() of none", x.missed(), 0);
        x.noise(20);
        due("missed() of c and d", x.missed(), 12);
        x.cut(0, 1);
        due("missed() of all but d", x.missed(), 7);
        due("missed() without lines", Checks.traced("trace 1").missed(), 0);
        due("missed() of no trace", new TracePeaks().missed(), NONE);
    }

    private static void would() {
        TracePeaks x = hills();
        due("would(9, 0, 0)", x.would(9, 0, 0), 3);
        due("would(9, 999, 1)", x.would(9, 999, 1), 9);
        due("would(9, 0, 2)", x.would(9, 0, 2), 4);
        due("would(9, 25, 2)", x.would(9, 25, 2), 5);
        Checks.samplesDue("would", x, "10 40 20 90 30 60 50 70 5 25");
        due("would(9, 0, 3)", x.would(9, 0, 3), NONE);
        due("would(9, 0, -1)", x.would(9, 0, -1), NONE);
        due("would(10, 0, 0)", x.would(10, 0, 0), NONE);
        due("would(-1, 0, 0)", x.would(-1, 0, 0), NONE);
        due("would(0, 1000, 0)", x.would(0, 1000, 0), NONE);
        due("would(0, -1, 0)", x.would(0, -1, 0), NONE);
        x.undo();
        x.scale(2, 1);
        due("would(9, 40, 0) behind an act", x.would(9, 40, 0), 5);
        due("would(9, 24, 0) behind an act", x.would(9, 24, 0), 4);
        x.undo();
        due("would is no act", x.status(0) + x.status(1) + x.held(3), 0);
        due("would(0, 1, 0) of no trace", new TracePeaks().would(0, 1, 0), NONE);
    }

    private static void solo() {
        TracePeaks x = hills();
        due("solo()", x.solo(), 1);
        x.cut(0, 3);
        due("solo() of one peak and one", x.solo(), NONE);
        TracePeaks like = Checks.traced("trace 9 1 7 0 7");
        due("of several the lowest", like.solo(), 1);
        TracePeaks low = Checks.traced("trace 99 80 85 10 40");
        due("the greatest height, not the greatest persistence", low.solo(), 2);
        due("whether kept or not", Checks.traced("trace 9 8 9;noise 5").solo(), 1);
        due("solo() of no trace", new TracePeaks().solo(), NONE);
    }

    private static void tallest() {
        TracePeaks x = hills();
        due("tallest(0)", x.tallest(0), 0);
        due("tallest(1)", x.tallest(1), 1);
        due("tallest(2)", x.tallest(2), 4);
        due("tallest(3)", x.tallest(3), NONE);
        due("tallest(-1)", x.tallest(-1), NONE);
        TracePeaks like = Checks.traced("trace 9 1 7 0 7 5 8");
        due("of several", like.tallest(1), 1);
        due("of the next generation", like.tallest(2), 3);
        due("of like ones the lowest", Checks.traced("trace 9 1 7 0 7").tallest(1), 1);
        due("tallest(0) of no trace", new TracePeaks().tallest(0), NONE);
    }

    private static void change() {
        TracePeaks x = hills();
        // Of 4 kept without place 1 only 3, 7, 9 are left; no other single one takes more.
        due("change(0)", x.change(0), 1);
        due("change(1)", x.change(1), 3);
        due("change(2)", x.change(2), NONE);
        due("change(-1)", x.change(-1), NONE);
        Checks.samplesDue("change", x, "10 40 20 90 30 60 50 70 5 25");
        TracePeaks one = Checks.traced("trace 4 4");
        due("of several the lowest", one.change(0), 0);
        due("of several the lowest: kept", one.change(1), 1);
        TracePeaks low = Checks.traced("trace 1 0 1 0 9");
        due("set to 0, not to 1", low.change(0), 0);
        due("set to 0, not to 1: kept", low.change(1), 2);
        low.set(2, 0);
        low.set(4, 1);
        due("behind acts", low.change(0), 0);
        due("behind acts: kept", low.change(1), 1);
        due("change(0) of no trace", new TracePeaks().change(0), NONE);
    }

    private static void spell() {
        TracePeaks x = hills();
        String[] want = {"alpha@3:90", "b@7:70", "d@1:40", "c@9:25"};
        for (int i = 0; i < 4; i++) {
            due("spell(" + i + ", NONE)", x.spell(i, NONE), want[i].length());
            Checks.due("spell(" + i + ") is " + want[i], Checks.spelt(x, i).equals(want[i]), true);
            due("spell(" + i + ") beyond", x.spell(i, want[i].length()), NONE);
        }
        due("spell(0, 0)", x.spell(0, 0), 'a');
        due("spell(0, -2)", x.spell(0, -2), NONE);
        due("spell of one not kept", x.spell(4, NONE), NONE);
        due("spell(5, 0)", x.spell(5, 0), NONE);
        due("spell(-1, 0)", x.spell(-1, 0), NONE);
        due("spell(0, NONE) of no trace", new TracePeaks().spell(0, NONE), NONE);
        TracePeaks one = Checks.traced("trace 1 1 1 1 1 1 1 1 1 1 1 999;line abcdef 12");
        Checks.due("the longest", Checks.spelt(one, 0).equals("abcdef@11:999"), true);
        TracePeaks bare = Checks.traced("trace 0");
        Checks.due("without a line", Checks.spelt(bare, 0).equals("?@0:0"), true);
        TracePeaks ten = Checks.traced("trace 1 1 1 1 1 1 1 1 1 1 10");
        Checks.due("ten", Checks.spelt(ten, 0).equals("?@10:10"), true);
        TracePeaks hundred = Checks.traced("trace 100");
        Checks.due("a hundred", Checks.spelt(hundred, 0).equals("?@0:100"), true);
    }

    // Promises 37 to 39

    private static final String ALL_STEPS = "smooth;median;flat;turn;clip -1;lift -999;scale 3 4;set 5 -6;noise 007;cut 8 -0";

    private static void step() {
        TracePeaks x = new TracePeaks();
        due("no script", x.step(0, 0, 0), HIDDEN);
        Checks.script(x, "turn");
        due("a second script", Checks.script(x, ALL_STEPS), 1);
        int[][] want = {{0, HIDDEN, HIDDEN}, {1, HIDDEN, HIDDEN}, {2, HIDDEN, HIDDEN}, {3, HIDDEN, HIDDEN},
            {4, -1, HIDDEN}, {5, -999, HIDDEN}, {6, 3, 4}, {7, 5, -6}, {8, 7, HIDDEN}, {9, 8, 0}};
        for (int i = 0; i < want.length; i++) {
            for (int what = 0; what < 3; what++) {
                due("step(1, " + i + ", " + what + ")", x.step(1, i, what), want[i][what]);
            }
        }
        due("step(1, 10, 0)", x.step(1, 10, 0), HIDDEN);
        due("step(1, -1, 0)", x.step(1, -1, 0), HIDDEN);
        due("step(1, 6, 3)", x.step(1, 6, 3), HIDDEN);
        due("step(1, 6, -1)", x.step(1, 6, -1), HIDDEN);
        due("step(2, 0, 0)", x.step(2, 0, 0), HIDDEN);
        due("step(-1, 0, 0)", x.step(-1, 0, 0), HIDDEN);
        due("step(0, 1, 0)", x.step(0, 1, 0), HIDDEN);
    }

    private static TracePeaks scripted() {
        TracePeaks x = hills();
        Checks.script(x, "noise 20;cut 3 5;set 4 0");
        Checks.script(x, "noise 20;cut 3 5;set 5 0;turn");
        Checks.script(x, "scale 1 0;turn");
        return x;
    }

    private static void run() {
        TracePeaks x = scripted();
        due("run(0, 0): all can be", x.run(0, 0), NONE);
        due("run(0, 1)", x.run(0, 1), 2);
        due("run(1, 0)", x.run(1, 0), 2);
        due("run(1, 1)", x.run(1, 1), 2);
        due("run(2, 0)", x.run(2, 0), 0);
        due("run(2, 1)", x.run(2, 1), 4);
        due("run(0, 2)", x.run(0, 2), HIDDEN);
        due("run(0, -1)", x.run(0, -1), HIDDEN);
        due("run(3, 0)", x.run(3, 0), HIDDEN);
        due("run(-1, 0)", x.run(-1, 0), HIDDEN);
        Checks.samplesDue("run", x, "10 40 20 90 30 60 50 70 5 25");
        due("no acts, no status", x.held(3) + x.held(4) + x.status(0) + x.status(1), 0);
        TracePeaks none = new TracePeaks();
        Checks.script(none, "turn");
        due("run of no trace", none.run(0, 0), HIDDEN);
        Checks.write(none, "trace 9 0 8;noise 8").text(0);
        Checks.script(none, "set 2 9;flat;noise 3");
        due("flat in a run is with peaks as they are then", none.run(1, 1), 2);
    }

    private static void perform() {
        TracePeaks x = scripted();
        due("perform(1)", x.perform(1), 2);
        Checks.samplesDue("perform(1)", x, "90 30 60 50 70");
        due("log", x.held(3), 2);
        due("log(0, 0)", x.log(0, 0), 9);
        due("log(1, 1)", x.log(1, 1), 20);
        due("log(1, 2)", x.log(1, 2), 2);
        due("no status", x.status(0) + x.status(1), 0);
        due("undo()", x.undo(), 1);
        due("samples", x.rule(0), 10);
        due("perform(2)", x.perform(2), 0);
        due("perform(0)", x.perform(0), 3);
        due("log of a step with two numbers", x.log(0, 1), 4);
        Checks.script(x, "smooth");
        due("perform of one without numbers", x.perform(3), 1);
        due("its log(0, 1)", x.log(0, 1), 0);
        due("perform(4)", x.perform(4), NONE);
        due("perform(-1)", x.perform(-1), NONE);
        TracePeaks none = new TracePeaks();
        Checks.script(none, "turn");
        due("perform of no trace", none.perform(0), NONE);
        due("perform of no trace: status", none.status(0), 0);
    }

    // Promises 40 to 43

    private static void most() {
        TracePeaks x = hills();
        int[] want = {20, 175, 165, 230, 2, 15, 1, 90};
        for (int i = 0; i < 8; i++) {
            due("most(" + i + ")", x.most(i), want[i]);
            due("most(" + i + ") of no trace", new TracePeaks().most(i), HIDDEN);
        }
        due("most(8)", x.most(8), HIDDEN);
        due("most(-1)", x.most(-1), HIDDEN);
        x.noise(20);
        due("generations of all peaks", x.most(4), 2);
        due("matched", x.most(5), 3);
        due("generations of one peak", Checks.traced("trace 1").most(4), 0);
        due("widest of several: the lowest", Checks.traced("trace 9 0 9").most(6), 0);
    }

    private static void image() {
        TracePeaks x = hills();
        due("image()", x.image(), 4);
        due("image() is no act", x.held(3) + x.held(4), 0);
        x.noise(20);
        due("another image()", x.image(), 2);
        x.noise(0);
        due("the later image comes back", x.back(), 2);
        due("image() of no trace", new TracePeaks().image(), NONE);
    }

    private static void back() {
        TracePeaks x = hills();
        due("back() without an image", x.back(), NONE);
        x.turn();
        x.image();
        x.noise(1);
        x.cut(1, 2);
        due("back()", x.back(), 4);
        Checks.samplesDue("back()", x, "25 5 70 50 60 30 90 20 40 10");
        due("noise", x.rule(1), 15);
        due("no act can be undone", x.undo(), NONE);
        due("held(4)", x.held(4), 0);
        due("the log as it was", x.held(3), 1);
        due("log(0, 0)", x.log(0, 0), 3);
        x.set(0, 0);
        due("back() once more", x.back(), 4);
        due("sample(0)", x.sample(0), 25);
        x.set(0, 0);
        due("undo() behind back()", x.undo(), 0);
        x.turn();
        x.image();
        x.undo();
        x.clip(700);
        x.back();
        due("the log's own rows: sort", x.log(0, 0), 3);
        due("the log's own rows: number", x.log(0, 1), 0);
        x.noise(0);
        x.image();
        x.undo();
        x.noise(999);
        x.back();
        due("the log's own rows: kept", x.log(0, 2), x.rule(5));
        due("back() of no trace", new TracePeaks().back(), NONE);
    }

    private static void held() {
        TracePeaks x = scripted();
        x.turn();
        x.turn();
        x.undo();
        Checks.feed(x, "abc");
        int[] want = {10, 3, 3, 1, 1};
        for (int i = 0; i < 5; i++) {
            due("held(" + i + ")", x.held(i), want[i]);
        }
        due("held(5)", x.held(5), HIDDEN);
        due("held(-1)", x.held(-1), HIDDEN);
    }

    // All that 48 samples ask: peak k stands at 46 - 2k, 56 - 2k high, and dies at 5 into peak k - 1.

    private static TracePeaks full() {
        StringBuilder text = new StringBuilder("trace");
        for (int i = 0; i < 48; i++) {
            text.append(' ').append(i % 2 == 0 ? 10 + i : 5);
        }
        return Checks.traced(text.toString());
    }

    private static void aFullTrace() {
        TracePeaks x = full();
        int[] rules = {48, 0, 1, 0, 24, 24, 5, 912};
        int[] mosts = {552, 672, 672, 672, 23, 0, 0, 56};
        for (int i = 0; i < 8; i++) {
            due("full: rule(" + i + ")", x.rule(i), rules[i]);
            due("full: most(" + i + ")", x.most(i), mosts[i]);
        }
        for (int k = 0; k < 24; k++) {
            int at = 46 - 2 * k;
            long[] want = {at, at + 10, k == 0 ? NONE : at + 1, 5, at + 5, k - 1, 1, k, NONE};
            for (int what = 0; what < 9; what++) {
                due("full: peak(" + k + ", " + what + ")", Checks.peak(x, k, what), want[what]);
            }
            due("full: basin(" + k + ", 0)", x.basin(k, 0), Math.max(0, at - 1));
            due("full: basin(" + k + ", 1)", x.basin(k, 1), k == 0 ? 47 : at);
            due("full: basin(" + k + ", 2)", x.basin(k, 2), at + 5);
            due("full: basin(" + k + ", 3)", x.basin(k, 3), 1);
            due("full: noiseFor(" + (k + 1) + ")", x.noiseFor(k + 1), k == 23 ? 0 : at + 3);
            due("full: tallest(" + k + ")", x.tallest(k), k);
            due("full: at(" + at + ", 0)", x.at(at, 0), k);
        }
        due("full: at(47, 1)", x.at(47, 1), 0);
        due("full: pieces(6)", x.pieces(6), 24);
        due("full: pieces(5)", x.pieces(5), 1);
        due("full: change(0)", x.change(0), 0);
        due("full: change(1)", x.change(1), 23);
        due("full: solo()", x.solo(), 1);
        due("full: would(47, 999, 1)", x.would(47, 999, 1), 47);
        actsOnFull(x);
    }

    private static void actsOnFull(TracePeaks x) {
        x.smooth();
        due("full: smooth(): sample(0)", x.sample(0), 8);
        due("full: smooth(): sample(47)", x.sample(47), 17);
        x.undo();
        due("full: median()", x.median(), 23);
        due("full: median(): sample(0)", x.sample(0), 10);
        due("full: median(): sample(47)", x.sample(47), 5);
        x.undo();
        x.noise(49);
        due("full: flat()", x.flat(), 23);
        x.undo();
        due("full: turn()", x.turn(), 5);
        due("full: turn(): sample(1)", x.sample(1), 56);
        due("full: turn(): sample(47)", x.sample(47), 10);
        x.undo();
        due("full: clip(5)", x.clip(5), 24);
        x.undo();
        due("full: lift(1)", x.lift(1), 6);
        x.undo();
        due("full: scale(2, 1)", x.scale(2, 1), 112);
        x.undo();
        due("full: cut(0, 48)", x.cut(0, 48), 0);
        due("full: cut(1, 48)", x.cut(1, 48), NONE);
        due("full: cut(47, 1)", x.cut(47, 1), 47);
        due("full: the last sample", x.sample(0), 5);
    }
}
