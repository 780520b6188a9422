import java.util.Random;

/** Random runs of calls, each answer held against the Model's. */
public final class ModelTest {
    private static final int RUNS = 600;
    private static final int CALLS = 500;
    private static final int[] EXTREMES =
            {Integer.MIN_VALUE, Integer.MIN_VALUE + 1, -1000000, -1000, -2, -1, 0, 1, 47, 48, 49, 999, 1000, Integer.MAX_VALUE};

    private final Random random;
    private final TracePeaks x = new TracePeaks();
    private final Model model = new Model();
    private final StringBuilder told = new StringBuilder();

    private ModelTest(long seed) {
        random = new Random(seed);
    }

    public static void main(String[] args) {
        for (int run = 0; run < RUNS && !Checks.anyWrong(); run++) {
            new ModelTest(run).run(run);
        }
        Checks.close("ModelTest");
    }

    private void run(int run) {
        if (random.nextInt(20) != 0) {
            write(trace());
            due("text(0)", x.text(0), model.text(0));
        }
        for (int call = 0; call < CALLS && !Checks.anyWrong(); call++) {
            oneCall();
            allOfState();
        }
        if (Checks.anyWrong()) {
            System.out.println("run " + run + ":" + told);
        }
    }

    private void due(String call, long got, long want) {
        told.append("\n  ").append(call).append(" -> ").append(got);
        Checks.due(call, got, want);
    }

    // Texts.

    private int upTo(int n) {
        return random.nextInt(n + 1);
    }

    private String blanks() {
        return random.nextInt(6) == 0 ? " ".repeat(upTo(2)) : "";
    }

    private int sample(int range) {
        return random.nextInt(30) == 0 ? upTo(999) : upTo(range);
    }

    private String trace() {
        StringBuilder text = new StringBuilder("trace");
        int n = random.nextInt(8) == 0 ? 1 + upTo(48) : 1 + upTo(19);
        int range = new int[] {1, 3, 9, 40, 999}[random.nextInt(5)];
        for (int i = 0; i < n; i++) {
            text.append(' ').append(blanks()).append(sample(range));
        }
        if (random.nextBoolean()) {
            clause(text, "noise " + sample(range / 2 + 1));
        }
        if (random.nextBoolean()) {
            clause(text, "reach " + upTo(random.nextInt(4) == 0 ? 10 : 3));
        }
        int lines = upTo(random.nextInt(6) == 0 ? 9 : 4);
        for (int i = 0; i < lines; i++) {
            clause(text, "line " + name(i) + " " + upTo(random.nextInt(5) == 0 ? 48 : n));
        }
        return text.toString();
    }

    private void clause(StringBuilder text, String clause) {
        if (random.nextBoolean()) {
            text.append(blanks()).append(';').append(blanks()).append(clause);
        } else {
            text.insert(0, clause + blanks() + ";" + blanks());
        }
    }

    private String name(int i) {
        String[] names = {"trace", "noise", "line", "reach", "alpha", "be", "ben", "x", "abcdef", "abcdefg"};
        return random.nextInt(5) == 0 ? names[random.nextInt(10)] : "n" + (char) ('a' + i);
    }

    private String script() {
        StringBuilder text = new StringBuilder();
        int steps = 1 + upTo(random.nextInt(5) == 0 ? 12 : 4);
        for (int i = 0; i < steps; i++) {
            text.append(i > 0 ? ";" : "").append(blanks());
            int sort = random.nextInt(10);
            text.append(Model.SORTS.get(sort));
            int numbers = sort < 4 ? 0 : sort == 4 || sort == 5 || sort == 8 ? 1 : 2;
            for (int j = 0; j < numbers; j++) {
                text.append(' ').append(blanks()).append(stepNumber());
            }
            text.append(blanks());
        }
        return text.toString();
    }

    private int stepNumber() {
        int range = new int[] {3, 12, 60, 999}[random.nextInt(4)];
        return random.nextInt(8) == 0 ? -upTo(range) : upTo(range);
    }

    /** One or two signs of a text are others. */
    private String spoilt(String text) {
        StringBuilder spoilt = new StringBuilder(text);
        String signs = "  ;;--0123456789abelinotrc\t\u00e9Z";
        for (int i = 1 + upTo(1); i > 0; i--) {
            int at = upTo(spoilt.length());
            char sign = signs.charAt(random.nextInt(signs.length()));
            int way = random.nextInt(4);
            if (way == 0 || at == spoilt.length()) {
                spoilt.insert(at, sign);
            } else if (way == 1) {
                spoilt.setCharAt(at, sign);
            } else if (way == 2) {
                spoilt.deleteCharAt(at);
            } else {
                spoilt.setLength(at);
            }
        }
        return spoilt.toString();
    }

    private void write(String text) {
        if (random.nextInt(10) != 0) {
            due("end(0)", x.end(0) ? 1 : 0, model.end(0) ? 1 : 0);
        }
        told.append("\n  \"").append(text).append('"');
        for (int i = 0; i < text.length(); i += 20) {
            int[] words = new int[5];
            for (int j = i; j < i + 20 && j < text.length(); j++) {
                words[(j - i) / 4] |= text.charAt(j) << 24 - 8 * (j % 4);
            }
            due("feed", x.feed(words[0], words[1], words[2], words[3], words[4]), model.feed(words));
        }
    }

    private void texts() {
        boolean asTrace = random.nextInt(3) == 0;
        String text = asTrace ? trace() : script();
        boolean spoil = random.nextInt(3) != 0;
        write(spoil ? spoilt(text) : text);
        due("fault(0)", x.fault(0), model.fault(0));
        due("fault(1)", x.fault(1), model.fault(1));
        int sort = asTrace ? 0 : 1;
        if (!asTrace || !spoil && random.nextInt(4) == 0) {
            due("text(" + sort + ")", x.text(sort), model.text(sort));
        }
    }

    // Calls.

    private int number(int range) {
        int way = random.nextInt(12);
        if (way == 0) {
            return EXTREMES[random.nextInt(EXTREMES.length)];
        }
        return way == 1 ? upTo(999) : upTo(range);
    }

    private int what(int most) {
        return random.nextInt(15) == 0 ? EXTREMES[random.nextInt(EXTREMES.length)] : random.nextInt(most + 3) - 1;
    }

    private int place() {
        return random.nextInt(12) == 0 ? EXTREMES[random.nextInt(EXTREMES.length)]
                : random.nextInt(Math.max(1, x.held(0)) + 2) - 1;
    }

    private void oneCall() {
        int way = random.nextInt(100);
        if (way < 6) {
            texts();
        } else if (way < 40) {
            acts();
        } else if (way < 44) {
            due("undo()", x.undo(), model.undo());
        } else if (way < 46) {
            int times = 1 + upTo(44);
            for (int i = 0; i < times; i++) {
                due("undo()", x.undo(), model.undo());
            }
        } else if (way < 49) {
            int n = random.nextInt(3) == 0 ? number(41) : 1 + upTo(6);
            long seed = random.nextInt(4) == 0 ? number(9) : random.nextLong();
            due("ways(" + n + ", " + seed + ")", x.ways(n, seed), model.ways(n, seed));
        } else if (way < 52) {
            due("image()", x.image(), model.image());
        } else if (way < 54) {
            due("back()", x.back(), model.back());
        } else if (way < 56) {
            int script = what(3);
            due("perform(" + script + ")", x.perform(script), model.perform(script));
        } else if (way < 57) {
            int[] words = {random.nextInt(), 0, random.nextInt() & 0xff00ff, -1, 0x20202020};
            due("feed", x.feed(words[0], words[1], words[2], words[3], words[4]), model.feed(words));
        } else if (way < 58) {
            int n = number(400);
            due("end(" + n + ")", x.end(n) ? 1 : 0, model.end(n) ? 1 : 0);
        } else {
            questions();
            questions();
            questions();
        }
    }

    private void acts() {
        int sort = random.nextInt(10);
        int a = number(60);
        int b = number(60);
        if (sort == 5 && random.nextBoolean()) {
            a = -a;
        } else if (sort == 6) {
            a = number(9);
            b = number(9);
        } else if (sort == 7) {
            a = place();
        } else if (sort == 9) {
            a = place();
            b = random.nextInt(3) == 0 ? number(48) : x.held(0) - a;
        } else if (sort == 8) {
            a = number(9);
        }
        due(Model.SORTS.get(sort) + "(" + a + ", " + b + ")", act(sort, a, b), model.ask(sort, a, b));
    }

    private int act(int sort, int a, int b) {
        switch (sort) {
            case 0: return x.smooth();
            case 1: return x.median();
            case 2: return x.flat();
            case 3: return x.turn();
            case 4: return x.clip(a);
            case 5: return x.lift(a);
            case 6: return x.scale(a, b);
            case 7: return x.set(a, b);
            case 8: return x.noise(a);
            default: return x.cut(a, b);
        }
    }

    private void questions() {
        int way = random.nextInt(14);
        int a = what(7);
        int b = what(8);
        int place = place();
        int n = number(50);
        switch (way) {
            case 0: due("noiseFor(" + n + ")", x.noiseFor(n), model.noiseFor(n)); break;
            case 1: due("pieces(" + n + ")", x.pieces(n), model.pieces(n)); break;
            case 2: due("room(" + a + ")", x.room(a % 3), model.room(a % 3)); break;
            case 3: due("unlike()", x.unlike(), model.unlike()); break;
            case 4: due("shift(" + a + ")", x.shift(a % 3), model.shift(a % 3)); break;
            case 5: due("would(" + place + ", " + n + ", " + a + ")", x.would(place, n, a % 4), model.would(place, n, a % 4)); break;
            case 6: due("solo()", x.solo(), model.solo()); break;
            case 7: due("tallest(" + a + ")", x.tallest(a), model.tallest(a)); break;
            case 8: due("change(" + a + ")", x.change(a % 3), model.change(a % 3)); break;
            case 9: due("spell(" + a + ", " + b + ")", x.spell(a, b), model.spell(a, b)); break;
            case 10: due("step(" + a % 5 + ", " + b + ", " + n % 4 + ")", x.step(a % 5, b, n % 4), model.step(a % 5, b, n % 4)); break;
            case 11: due("run(" + a % 5 + ", " + b % 3 + ")", x.run(a % 5, b % 3), model.run(a % 5, b % 3)); break;
            case 12: due("log(" + n + ", " + a + ")", x.log(n, a % 4), model.log(n, a % 4)); break;
            default: ofPeaks(a, b, place); break;
        }
    }

    private void ofPeaks(int a, int b, int place) {
        due("peak(" + a + ", " + b + ")", Checks.peak(x, a, b), model.peak(a, b));
        due("basin(" + a + ", " + b % 5 + ")", x.basin(a, b % 5), model.basin(a, b % 5));
        due("at(" + place + ", " + a + ")", x.at(place, a % 3), model.at(place, a % 3));
        due("line(" + a + ", " + b % 4 + ")", x.line(a, b % 4), model.line(a, b % 4));
        due("sample(" + place + ")", x.sample(place), model.sample(place));
    }

    /** Now and then all that is held, told whole. */
    private void allOfState() {
        for (int i = -1; i < 6; i++) {
            due("held(" + i + ")", x.held(i), model.held(i));
        }
        due("status(0)", x.status(0), model.status(0));
        due("status(1)", x.status(1), model.status(1));
        if (random.nextInt(12) != 0) {
            return;
        }
        for (int i = -1; i < 9; i++) {
            due("rule(" + i + ")", x.rule(i), model.rule(i));
            due("most(" + i + ")", x.most(i), model.most(i));
        }
        for (int i = 0; i <= x.held(0); i++) {
            due("sample(" + i + ")", x.sample(i), model.sample(i));
            due("at(" + i + ", 0)", x.at(i, 0), model.at(i, 0));
            due("at(" + i + ", 1)", x.at(i, 1), model.at(i, 1));
        }
        for (int i = 0; i <= Math.max(0, x.rule(4)); i++) {
            for (int what = 0; what < 9; what++) {
                due("peak(" + i + ", " + what + ")", Checks.peak(x, i, what), model.peak(i, what));
                due("basin(" + i + ", " + what + ")", x.basin(i, what), model.basin(i, what));
            }
            for (int j = -2; j < 14; j++) {
                due("spell(" + i + ", " + j + ")", x.spell(i, j), model.spell(i, j));
            }
        }
        for (int i = 0; i < 9; i++) {
            due("line(" + i + ", 0)", x.line(i, 0), model.line(i, 0));
            due("line(" + i + ", 1)", x.line(i, 1), model.line(i, 1));
            due("line(" + i + ", 2)", x.line(i, 2), model.line(i, 2));
        }
        due("missed()", x.missed(), model.missed());
        for (int i = 0; i < 61; i++) {
            due("log(" + i + ", 0)", x.log(i, 0), model.log(i, 0));
            due("log(" + i + ", 1)", x.log(i, 1), model.log(i, 1));
            due("log(" + i + ", 2)", x.log(i, 2), model.log(i, 2));
        }
    }
}
