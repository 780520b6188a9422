import java.util.NoSuchElementException;

/** What the tests share: counting checks, and telling an object texts by its tape. */
final class Checks {
    /** What stands for a NoSuchElementException where an answer is looked for. */
    static final long THROWS = Long.MIN_VALUE;

    private static int right = 0;
    private static int wrong = 0;

    private Checks() {
    }

    static void due(String call, long got, long want) {
        if (got == want) {
            right++;
            return;
        }
        wrong++;
        if (wrong <= 40) {
            System.out.println(call + " answered " + got + ", due is " + want);
        }
    }

    static void due(String call, boolean got, boolean want) {
        due(call, got ? 1 : 0, want ? 1 : 0);
    }

    static int right() {
        return right;
    }

    static int wrong() {
        return wrong;
    }

    static boolean anyWrong() {
        return wrong > 0;
    }

    static void close(String name) {
        System.out.println(name + ": " + right + " checks right, " + wrong + " wrong");
        if (wrong > 0) {
            System.exit(1);
        }
    }

    static long peak(TracePeaks x, int peak, int what) {
        try {
            return x.peak(peak, what);
        } catch (NoSuchElementException e) {
            return THROWS;
        }
    }

    /** Feeds the text to what the tape already holds. */
    static int feed(TracePeaks x, String text) {
        int answer = x.held(2);
        for (int i = 0; i < text.length(); i += 20) {
            answer = x.feed(word(text, i), word(text, i + 4), word(text, i + 8), word(text, i + 12), word(text, i + 16));
        }
        return answer;
    }

    /** The tape holds this text alone. */
    static TracePeaks write(TracePeaks x, String text) {
        x.end(0);
        feed(x, text);
        return x;
    }

    static TracePeaks traced(String text) {
        TracePeaks x = write(new TracePeaks(), text);
        if (x.text(0) < 1) {
            throw new IllegalStateException("not a trace: " + text);
        }
        return x;
    }

    static int script(TracePeaks x, String text) {
        return write(x, text).text(1);
    }

    /** All samples as one text. */
    static String samples(TracePeaks x) {
        StringBuilder all = new StringBuilder();
        for (int i = 0; i < x.held(0); i++) {
            all.append(i > 0 ? " " : "").append(x.sample(i));
        }
        return all.toString();
    }

    static void samplesDue(String call, TracePeaks x, String want) {
        String got = samples(x);
        if (!got.equals(want)) {
            System.out.println(call + ": samples are " + got + ", due are " + want);
        }
        due(call + ": samples", got.equals(want), true);
    }

    static String spelt(TracePeaks x, int peak) {
        StringBuilder all = new StringBuilder();
        for (int i = 0; i < x.spell(peak, TracePeaks.NONE); i++) {
            all.append((char) x.spell(peak, i));
        }
        return all.toString();
    }

    private static int word(String text, int from) {
        int word = 0;
        for (int i = from; i < from + 4; i++) {
            word = word << 8 | (i < text.length() ? text.charAt(i) : 0);
        }
        return word;
    }
}
