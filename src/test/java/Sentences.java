import java.util.ArrayList;
import java.util.List;

/**
 * The sentences of the document, each with a test of its own. A test names the promise that it is
 * of, the section of the document in which its sentence stands, and the sentence.
 */
final class Sentences {
    static final int NONE = TracePeaks.NONE;
    static final int HIDDEN = TracePeaks.HIDDEN;
    static final long THROWS = Checks.THROWS;
    static final int LOW = Integer.MIN_VALUE;
    static final int HIGH = Integer.MAX_VALUE;

    /*
     * By falling persistence: 0 at 3 (90, 85), 1 at 7 (70, dies in 4 at 30: 40), 2 at 1 (40, in 2
     * at 20: 20), 3 at 9 (25, in 8 at 5: 20), 4 at 5 (60, in 6 at 50: 10, into 1).
     */
    static final String HILLS =
            "trace 10 40 20 90 30 60 50 70 5 25;noise 15;line alpha 4;line b 8;line c 8;line d 0";
    static final String HILL_SAMPLES = "10 40 20 90 30 60 50 70 5 25";

    private record Told(int promise, String section, String says, Runnable body) {
        String name() {
            String stands = section.equals("Promise " + promise) ? "" : " (" + section + ")";
            return "Promise " + promise + stands + ": " + says;
        }
    }

    private static final List<Told> ALL = new ArrayList<>();

    private Sentences() {
    }

    /** A sentence of the promise itself. */
    static void test(int promise, String says, Runnable body) {
        test(promise, "Promise " + promise, says, body);
    }

    static void test(int promise, String section, String says, Runnable body) {
        ALL.add(new Told(promise, section, says, body));
    }

    static void runAll(Document document) {
        boolean[] has = new boolean[Document.PROMISES + 1];
        for (Told test : ALL) {
            has[test.promise] = true;
            run(test, document);
        }
        for (int i = 1; i <= Document.PROMISES; i++) {
            due("Promise " + i + " has a test", has[i]);
        }
        for (String words : document.unquoted()) {
            due("a test is of these words of " + words, false);
        }
        System.out.println(ALL.size() + " sentences");
    }

    private static void run(Told test, Document document) {
        int right = Checks.right();
        int wrong = Checks.wrong();
        try {
            test.body.run();
        } catch (RuntimeException e) {
            due("a call threw " + e, false);
        }
        due("the sentence stands once in " + test.section, document.quote(test.section, test.says));
        boolean holds = Checks.wrong() == wrong && Checks.right() > right + 1;
        System.out.println((holds ? "  ok      " : "  FAILED  ") + test.name());
        if (!holds && Checks.wrong() == wrong) {
            due("the test looks at something", false);
        }
    }

    // What the tests share.

    static void due(String call, long got, long want) {
        Checks.due(call, got, want);
    }

    static void due(String call, boolean right) {
        Checks.due(call, right, true);
    }

    static TracePeaks hills() {
        return Checks.traced(HILLS);
    }

    /** A trace that has an image, two acts to be undone, a script, and bytes on its tape. */
    static TracePeaks busy() {
        TracePeaks x = hills();
        Checks.script(x, "clip 7");
        x.noise(12);
        x.image();
        x.set(9, 26);
        Checks.write(x, "turn");
        return x;
    }

    /** What an object that never had a trace can have. */
    static TracePeaks traceless() {
        TracePeaks x = new TracePeaks();
        Checks.script(x, "clip 7");
        return Checks.write(x, "turn");
    }

    static String times(String part, int n) {
        return part.repeat(n);
    }

    /** What an object tells of itself, but for its STATUS: less than 120 calls. */
    static String whole(TracePeaks x) {
        StringBuilder all = new StringBuilder();
        for (int i = 0; i < 5; i++) {
            all.append(x.held(i)).append(' ');
        }
        for (int i = 0; i < 8; i++) {
            all.append(x.rule(i)).append(' ');
        }
        all.append(Checks.samples(x)).append(" peaks ");
        for (int i = 0; i < Math.min(5, x.rule(4)); i++) {
            for (int what = 0; what < 9; what += what == 0 ? 2 : 1) {
                all.append(Checks.peak(x, i, what)).append(' ');
            }
        }
        for (int i = 0; i < Math.min(3, x.rule(3)); i++) {
            all.append(x.line(i, 0)).append(' ').append(x.line(i, 2)).append(' ');
        }
        for (int i = 0; i < 3; i++) {
            all.append(x.log(0, i)).append(' ').append(x.log(1, i)).append(' ').append(x.step(0, 0, i)).append(' ');
        }
        return all.append(x.fault(0)).append(' ').append(x.fault(1)).append(' ').append(x.unlike()).toString();
    }

    /** These calls leave all as it is but STATUS, which tells that so many acts were refused. */
    static void changesNothing(TracePeaks x, int places, int bounds, Runnable calls) {
        String was = whole(x);
        int status0 = x.status(0);
        int status1 = x.status(1);
        calls.run();
        String is = whole(x);
        if (!is.equals(was)) {
            System.out.println("  was " + was + "\n  is  " + is);
        }
        due("what is refused changes nothing", is.equals(was));
        due("status(0) grows by", x.status(0) - status0, places);
        due("status(1) grows by", x.status(1) - status1, bounds);
    }

    /** Undoes all that can be. */
    static int undoAll(TracePeaks x) {
        int undone = 0;
        while (undone < 50 && x.undo() != NONE) {
            undone++;
        }
        return undone;
    }
}
