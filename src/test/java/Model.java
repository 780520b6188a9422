import java.util.ArrayDeque;
import java.util.ArrayList;
import java.util.Arrays;
import java.util.Collections;
import java.util.Comparator;
import java.util.Deque;
import java.util.HashSet;
import java.util.List;
import java.util.Set;

/**
 * The document once more, told as plainly as the Java library lets it: no care for speed or for
 * objects made. The random runs of ModelTest hold TracePeaks against it.
 */
final class Model {
    private static final int NONE = -1;
    private static final int HIDDEN = -1000000;
    static final List<String> SORTS =
            List.of("smooth", "median", "flat", "turn", "clip", "lift", "scale", "set", "noise", "cut");

    record Line(String name, int place) {
    }

    record Step(int sort, List<Integer> numbers) {
        int number(int i) {
            return i < numbers.size() ? numbers.get(i) : 0;
        }
    }

    record Entry(int sort, int number, int kept) {
    }

    /** What acts change. */
    record State(List<Integer> samples, int noise, List<Entry> log) {
    }

    static final class Peak {
        int place;
        int height;
        int valley = NONE;
        int death;
        Peak parent;

        int persistence() {
            return height - death;
        }

        int generation() {
            return parent == null ? 0 : parent.generation() + 1;
        }
    }

    private String tape = "";
    private final List<List<Step>> scripts = new ArrayList<>();
    private State state;
    private State image;
    private List<Line> lines = new ArrayList<>();
    private int reach;
    private final Deque<State> past = new ArrayDeque<>();
    private final int[] refused = new int[2];

    // Texts.

    private static final class Fault extends RuntimeException {
        private static final long serialVersionUID = 1L;
        final int place;

        Fault(int place) {
            super(null, null, false, false);
            this.place = place;
        }
    }

    private static final class Text {
        final List<String> parts = new ArrayList<>();
        final List<Integer> places = new ArrayList<>();
        int next = 0;

        Text(String tape) {
            var matcher = java.util.regex.Pattern.compile("[a-z]+|-?[0-9]+|[^ ]", java.util.regex.Pattern.DOTALL).matcher(tape);
            while (matcher.find()) {
                parts.add(matcher.group());
                places.add(matcher.start());
            }
            parts.add("");
            places.add(tape.length());
        }

        String part() {
            return parts.get(next);
        }

        Fault fault() {
            return new Fault(places.get(next));
        }

        String word() {
            if (!part().matches("[a-z]+")) {
                throw fault();
            }
            return part();
        }

        boolean numberIsNext() {
            return part().matches("-?[0-9]+");
        }

        int number(int least, int greatest) {
            String part = part();
            if (!part.matches("-?[0-9]{1,3}") || (least >= 0 && part.startsWith("-"))) {
                throw fault();
            }
            int n = Integer.parseInt(part);
            if (n < least || n > greatest) {
                throw fault();
            }
            next++;
            return n;
        }
    }

    private static final class Told {
        List<Integer> samples;
        Integer noise;
        Integer reach;
        final List<Line> lines = new ArrayList<>();
    }

    private static Told trace(String tape) {
        Text text = new Text(tape);
        Told told = new Told();
        while (true) {
            clause(text, told);
            if (text.part().isEmpty()) {
                break;
            }
            if (!text.part().equals(";")) {
                throw text.fault();
            }
            text.next++;
        }
        if (told.samples == null) {
            throw new Fault(tape.length());
        }
        return told;
    }

    private static void clause(Text text, Told told) {
        String word = text.word();
        if (word.equals("trace") && told.samples == null) {
            text.next++;
            told.samples = new ArrayList<>();
            told.samples.add(text.number(0, 999));
            while (text.numberIsNext()) {
                if (told.samples.size() == 48) {
                    throw text.fault();
                }
                told.samples.add(text.number(0, 999));
            }
        } else if (word.equals("noise") && told.noise == null) {
            text.next++;
            told.noise = text.number(0, 999);
        } else if (word.equals("reach") && told.reach == null) {
            text.next++;
            told.reach = text.number(0, 9);
        } else if (word.equals("line") && told.lines.size() < 8) {
            text.next++;
            String name = text.word();
            if (name.length() > 6 || told.lines.stream().anyMatch(line -> line.name().equals(name))) {
                throw text.fault();
            }
            text.next++;
            told.lines.add(new Line(name, text.number(0, 47)));
        } else {
            throw text.fault();
        }
    }

    private static List<Step> script(String tape) {
        Text text = new Text(tape);
        List<Step> steps = new ArrayList<>();
        while (true) {
            int sort = SORTS.indexOf(text.word());
            if (sort < 0) {
                throw text.fault();
            }
            text.next++;
            List<Integer> numbers = new ArrayList<>();
            int due = sort < 4 ? 0 : sort == 4 || sort == 5 || sort == 8 ? 1 : 2;
            for (int i = 0; i < due; i++) {
                numbers.add(text.number(-999, 999));
            }
            steps.add(new Step(sort, numbers));
            if (text.part().isEmpty()) {
                return steps;
            }
            if (!text.part().equals(";") || steps.size() == 12) {
                throw text.fault();
            }
            text.next++;
        }
    }

    int feed(int... words) {
        StringBuilder more = new StringBuilder(tape);
        for (int word : words) {
            for (int shift = 24; shift >= 0; shift -= 8) {
                char next = (char) (word >> shift & 255);
                if (next != 0) {
                    more.append(next);
                }
            }
        }
        if (more.length() > 400) {
            return NONE;
        }
        tape = more.toString();
        return tape.length();
    }

    boolean end(int n) {
        if (n < 0 || n > tape.length()) {
            return false;
        }
        tape = tape.substring(0, n);
        return true;
    }

    int fault(int sort) {
        if (sort != 0 && sort != 1) {
            return -2;
        }
        try {
            if (sort == 0) {
                trace(tape);
            } else {
                script(tape);
            }
            return NONE;
        } catch (Fault e) {
            return e.place;
        }
    }

    int text(int sort) {
        if (fault(sort) != NONE || (sort == 1 && scripts.size() == 4)) {
            return NONE;
        }
        if (sort == 1) {
            scripts.add(script(tape));
            tape = "";
            return scripts.size() - 1;
        }
        Told told = trace(tape);
        tape = "";
        lines = told.lines;
        reach = told.reach == null ? 1 : told.reach;
        state = new State(told.samples, told.noise == null ? 0 : told.noise, List.of());
        image = null;
        past.clear();
        return told.samples.size();
    }

    // Peaks.

    static List<Peak> peaks(List<Integer> samples) {
        int n = samples.size();
        List<Integer> coming = new ArrayList<>();
        for (int i = 0; i < n; i++) {
            coming.add(i);
        }
        coming.sort(Comparator.comparingInt((Integer i) -> -samples.get(i)).thenComparingInt(i -> i));
        Peak[] of = new Peak[n];
        List<Peak> begun = new ArrayList<>();
        for (int place : coming) {
            Peak left = place > 0 ? of[place - 1] : null;
            Peak right = place < n - 1 ? of[place + 1] : null;
            if (left == null && right == null) {
                Peak peak = new Peak();
                peak.place = place;
                peak.height = samples.get(place);
                begun.add(peak);
                of[place] = peak;
            } else if (left == null || right == null || left == right) {
                of[place] = left == null ? right : left;
            } else {
                Peak dies = begun.indexOf(left) > begun.indexOf(right) ? left : right;
                Peak stays = dies == left ? right : left;
                dies.valley = place;
                dies.death = samples.get(place);
                dies.parent = stays;
                for (int i = 0; i < n; i++) {
                    if (of[i] == dies) {
                        of[i] = stays;
                    }
                }
                of[place] = stays;
            }
        }
        Peak last = begun.get(0);
        last.death = Collections.min(samples);
        begun.sort(Comparator.comparingInt((Peak p) -> p.parent == null ? 0 : 1)
                .thenComparingInt(p -> -p.persistence()).thenComparingInt(p -> p.place));
        return begun;
    }

    private static boolean isKept(Peak peak, int noise) {
        return peak.parent == null || peak.persistence() > noise;
    }

    private static int kept(List<Integer> samples, int noise) {
        return (int) peaks(samples).stream().filter(p -> isKept(p, noise)).count();
    }

    private List<Peak> peaks() {
        return state == null ? List.of() : peaks(state.samples);
    }

    private int kept() {
        return kept(state.samples, state.noise);
    }

    private boolean isKept(int peak) {
        List<Peak> all = peaks();
        return peak >= 0 && peak < all.size() && isKept(all.get(peak), state.noise);
    }

    /** Of each place the number of the kept peak in whose basin it is. */
    private int[] basins() {
        List<Peak> all = peaks();
        int n = state.samples.size();
        int[] basin = new int[n];
        int now = NONE;
        int from = 0;
        for (int place = 0; place < n; place++) {
            int here = NONE;
            for (int i = 0; i < all.size(); i++) {
                if (all.get(i).place == place && isKept(i)) {
                    here = i;
                }
            }
            if (here == NONE) {
                continue;
            }
            if (now != NONE) {
                int border = from + 1;
                for (int i = from + 1; i < place; i++) {
                    if (state.samples.get(i) < state.samples.get(border)) {
                        border = i;
                    }
                }
                Arrays.fill(basin, border, n, here);
            } else {
                Arrays.fill(basin, here);
            }
            now = here;
            from = place;
        }
        return basin;
    }

    /** Of each line the peak that matched it. */
    private int[] takers(int shift) {
        int[] taker = new int[lines.size()];
        Arrays.fill(taker, NONE);
        List<Peak> all = peaks();
        for (int peak = 0; peak < all.size(); peak++) {
            if (!isKept(peak)) {
                continue;
            }
            for (int far = 0, found = 0; far <= reach && found == 0; far++) {
                for (int line = 0; line < taker.length && found == 0; line++) {
                    if (taker[line] == NONE && Math.abs(lines.get(line).place() - all.get(peak).place - shift) == far) {
                        taker[line] = peak;
                        found = 1;
                    }
                }
            }
        }
        return taker;
    }

    private static int indexOf(int[] all, int one) {
        for (int i = 0; i < all.length; i++) {
            if (all[i] == one) {
                return i;
            }
        }
        return NONE;
    }

    int rule(int what) {
        if (state == null) {
            return NONE;
        }
        List<Integer> samples = state.samples;
        int[] all = {samples.size(), state.noise, reach, lines.size(), peaks().size(), kept(),
            Collections.min(samples), samples.stream().mapToInt(i -> i).sum()};
        return what >= 0 && what < 8 ? all[what] : NONE;
    }

    private boolean has(int place) {
        return state != null && place >= 0 && place < state.samples.size();
    }

    int sample(int place) {
        return has(place) ? state.samples.get(place) : NONE;
    }

    long peak(int peak, int what) {
        List<Peak> all = peaks();
        if (peak < 0 || peak >= all.size() || what < 0 || what > 8) {
            return Checks.THROWS;
        }
        Peak p = all.get(peak);
        int[] told = {p.place, p.height, p.valley, p.death, p.persistence(),
            p.parent == null ? NONE : all.indexOf(p.parent), isKept(peak) ? 1 : 0, p.generation(),
            indexOf(takers(0), peak)};
        return told[what];
    }

    int basin(int peak, int what) {
        if (!isKept(peak) || what < 0 || what > 3) {
            return NONE;
        }
        Peak p = peaks().get(peak);
        int[] basins = basins();
        int first = indexOf(basins, peak);
        int last = first;
        int area = 0;
        for (int i = 0; i < basins.length; i++) {
            if (basins[i] == peak) {
                last = i;
                area += Math.max(0, state.samples.get(i) - p.death);
            }
        }
        return new int[] {first, last, area, around(state.samples, p.place, p.height - p.persistence() / 2).size()}[what];
    }

    /** The places around one at which samples are no less than a height. */
    private static Set<Integer> around(List<Integer> samples, int place, int height) {
        Set<Integer> places = new HashSet<>();
        for (int i = place; i >= 0 && samples.get(i) >= height; i--) {
            places.add(i);
        }
        for (int i = place; i < samples.size() && samples.get(i) >= height; i++) {
            places.add(i);
        }
        return places;
    }

    int at(int place, int what) {
        if (!has(place) || what < 0 || what > 1) {
            return NONE;
        }
        if (what == 1) {
            return basins()[place];
        }
        return indexOf(peaks().stream().mapToInt(p -> p.place).toArray(), place);
    }

    int line(int line, int what) {
        if (state == null || line < 0 || line >= lines.size() || what < 0 || what > 2) {
            return NONE;
        }
        return new int[] {lines.get(line).place(), takers(0)[line], lines.get(line).name().length()}[what];
    }

    // Acts.

    private static boolean in(int n, int least, int greatest) {
        return n >= least && n <= greatest;
    }

    /** Why an act can't be (0, 1), or -1. */
    private static int refusal(State s, int sort, int a, int b) {
        if (s == null) {
            return 0;
        }
        int n = s.samples.size();
        if ((sort == 7 || sort == 9) && !in(a, 0, n - 1)) {
            return 0;
        }
        boolean can = switch (sort) {
            case 4, 8 -> in(a, 0, 999);
            case 5 -> in(a, -999, 999);
            case 6 -> in(a, 0, 99) && in(b, 1, 99);
            case 7 -> in(b, 0, 999);
            case 9 -> b >= 1 && (long) a + b <= n;
            default -> true;
        };
        return can ? -1 : 1;
    }

    private static State acted(State s, int sort, int a, int b) {
        List<Integer> was = s.samples;
        int n = was.size();
        List<Integer> is = new ArrayList<>();
        int noise = sort == 8 ? a : s.noise;
        for (int i = 0; i < n; i++) {
            int it = was.get(i);
            int ahead = i == 0 ? it : was.get(i - 1);
            int behind = i == n - 1 ? it : was.get(i + 1);
            int[] three = {ahead, it, behind};
            Arrays.sort(three);
            is.add(switch (sort) {
                case 0 -> (ahead + it + it + behind) / 4;
                case 1 -> three[1];
                case 3 -> was.get(n - 1 - i);
                case 4 -> Math.min(it, a);
                case 5 -> Math.min(999, Math.max(0, it + a));
                case 6 -> Math.min(999, it * a / b);
                case 7 -> i == a ? b : it;
                default -> it;
            });
        }
        if (sort == 2) {
            for (Peak peak : peaks(was)) {
                for (int i : isKept(peak, s.noise) ? Set.<Integer>of() : around(was, peak.place, peak.death + 1)) {
                    is.set(i, Math.min(is.get(i), peak.death));
                }
            }
        }
        if (sort == 9) {
            is = new ArrayList<>(is.subList(a, a + b));
        }
        List<Entry> log = new ArrayList<>(s.log);
        log.add(new Entry(sort, sort < 4 ? 0 : a, kept(is, noise)));
        return new State(is, noise, log);
    }

    private void act(int sort, int a, int b) {
        past.addLast(state);
        if (past.size() > 40) {
            past.removeFirst();
        }
        state = acted(state, sort, a, b);
    }

    int ask(int sort, int a, int b) {
        int refusal = refusal(state, sort, a, b);
        if (refusal >= 0) {
            refused[refusal]++;
            return NONE;
        }
        State was = state;
        act(sort, a, b);
        int less = 0;
        for (int i = 0; i < Math.min(was.samples.size(), state.samples.size()); i++) {
            less += state.samples.get(i) < was.samples.get(i) ? 1 : 0;
        }
        return switch (sort) {
            case 0, 1 -> kept();
            case 2, 4 -> less;
            case 3 -> state.samples.get(0);
            case 5 -> Collections.min(state.samples);
            case 6 -> Collections.max(state.samples);
            case 7 -> was.samples.get(a);
            case 8 -> was.noise;
            default -> was.samples.size() - state.samples.size();
        };
    }

    private java.math.BigInteger x;

    private int draw(int j) {
        var round = java.math.BigInteger.ONE.shiftLeft(64);
        x = x.multiply(new java.math.BigInteger("6364136223846793005"))
                .add(new java.math.BigInteger("1442695040888963407")).mod(round);
        return x.shiftRight(33).mod(java.math.BigInteger.valueOf(j)).intValue();
    }

    int ways(int n, long seed) {
        if (state == null || n < 1 || n > 40) {
            return NONE;
        }
        x = java.math.BigInteger.valueOf(seed).mod(java.math.BigInteger.ONE.shiftLeft(64));
        for (int i = 0; i < n; i++) {
            int sort = draw(8);
            switch (sort) {
                case 0, 1, 2 -> act(sort, 0, 0);
                case 6 -> act(8, draw(200), 0);
                case 7 -> {
                    int times = draw(100);
                    act(6, times, draw(9) + 1);
                }
                default -> {
                    int place = draw(state.samples.size());
                    act(7, place, draw(1000));
                }
            }
        }
        return kept();
    }

    int status(int what) {
        return what == 0 || what == 1 ? refused[what] : NONE;
    }

    int undo() {
        if (past.isEmpty()) {
            return NONE;
        }
        state = past.removeLast();
        return past.size();
    }

    private List<Entry> log() {
        if (state == null) {
            return List.of();
        }
        return state.log.subList(Math.max(0, state.log.size() - 60), state.log.size());
    }

    int log(int i, int what) {
        List<Entry> log = log();
        if (i < 0 || i >= log.size() || what < 0 || what > 2) {
            return HIDDEN;
        }
        Entry entry = log.get(log.size() - 1 - i);
        return new int[] {entry.sort(), entry.number(), entry.kept()}[what];
    }

    // Apart from as it is now.

    int noiseFor(int k) {
        if (state == null || !in(k, 1, 48)) {
            return NONE;
        }
        int noise = 0;
        while (kept(state.samples, noise) > k) {
            noise++;
        }
        return noise;
    }

    int pieces(int height) {
        if (state == null || !in(height, 0, 999)) {
            return NONE;
        }
        StringBuilder all = new StringBuilder();
        for (int sample : state.samples) {
            all.append(sample >= height ? 'x' : ' ');
        }
        String told = all.toString().trim();
        return told.isEmpty() ? 0 : told.split(" +").length;
    }

    int room(int what) {
        if (state == null || what < 0 || what > 1) {
            return NONE;
        }
        int by = what == 0 ? 1 : -1;
        int noise = state.noise;
        while (in(noise + by, 0, 999) && kept(state.samples, noise + by) == kept()) {
            noise += by;
        }
        return Math.abs(noise - state.noise);
    }

    int unlike() {
        if (image == null) {
            return NONE;
        }
        List<Peak> here = peaks();
        List<Peak> there = peaks(image.samples);
        int sum = 0;
        for (int i = 0; i < 48; i++) {
            int a = i < here.size() ? here.get(i).persistence() : 0;
            int b = i < there.size() ? there.get(i).persistence() : 0;
            sum += Math.abs(a - b);
        }
        return sum;
    }

    private static int matched(int[] takers) {
        return (int) Arrays.stream(takers).filter(t -> t != NONE).count();
    }

    int shift(int what) {
        if (state == null || what < 0 || what > 1) {
            return HIDDEN;
        }
        List<Integer> shifts = new ArrayList<>();
        for (int i = -9; i <= 9; i++) {
            shifts.add(i);
        }
        int best = Collections.min(shifts, Comparator.comparingInt((Integer s) -> -matched(takers(s)))
                .thenComparingInt(Math::abs).thenComparingInt(s -> s));
        return what == 0 ? best : matched(takers(best));
    }

    int missed() {
        if (state == null) {
            return NONE;
        }
        int bits = 0;
        int[] takers = takers(0);
        for (int i = 0; i < takers.length; i++) {
            bits += takers[i] == NONE ? 1 << i : 0;
        }
        return bits;
    }

    int would(int place, int n, int what) {
        if (refusal(state, 7, place, n) >= 0 || what < 0 || what > 2) {
            return NONE;
        }
        State then = acted(state, 7, place, n);
        List<Peak> all = peaks(then.samples);
        return new int[] {kept(then.samples, then.noise), all.get(0).place, all.size()}[what];
    }

    /** Of some of the peaks the number of the highest; of several the lowest. */
    private static int highest(List<Peak> all, List<Peak> some) {
        return some.stream().map(all::indexOf)
                .min(Comparator.comparingInt((Integer i) -> -all.get(i).height).thenComparingInt(i -> i)).orElse(NONE);
    }

    int solo() {
        List<Peak> all = peaks();
        return highest(all, all.stream().filter(p -> p.parent != null).toList());
    }

    int tallest(int generation) {
        List<Peak> all = peaks();
        return highest(all, all.stream().filter(p -> p.generation() == generation).toList());
    }

    int change(int what) {
        if (state == null || what < 0 || what > 1) {
            return NONE;
        }
        List<Integer> counts = new ArrayList<>();
        for (int i = 0; i < state.samples.size(); i++) {
            counts.add(would(i, 0, 0));
        }
        int fewest = Collections.min(counts);
        return what == 0 ? counts.indexOf(fewest) : fewest;
    }

    int spell(int peak, int i) {
        if (!isKept(peak)) {
            return NONE;
        }
        int line = indexOf(takers(0), peak);
        Peak p = peaks().get(peak);
        String told = (line == NONE ? "?" : lines.get(line).name()) + "@" + p.place + ":" + p.height;
        if (i == NONE) {
            return told.length();
        }
        return i >= 0 && i < told.length() ? told.charAt(i) : NONE;
    }

    int step(int script, int i, int what) {
        if (!in(script, 0, scripts.size() - 1) || !in(i, 0, scripts.get(script).size() - 1) || what < 0) {
            return HIDDEN;
        }
        Step step = scripts.get(script).get(i);
        if (what == 0) {
            return step.sort();
        }
        return what <= step.numbers().size() ? step.numbers().get(what - 1) : HIDDEN;
    }

    int run(int script, int what) {
        if (!in(script, 0, scripts.size() - 1) || state == null || what < 0 || what > 1) {
            return HIDDEN;
        }
        State then = state;
        int done = 0;
        for (Step step : scripts.get(script)) {
            if (refusal(then, step.sort(), step.number(0), step.number(1)) >= 0) {
                return what == 0 ? done : kept(then.samples, then.noise);
            }
            then = acted(then, step.sort(), step.number(0), step.number(1));
            done++;
        }
        return what == 0 ? NONE : kept(then.samples, then.noise);
    }

    int perform(int script) {
        if (!in(script, 0, scripts.size() - 1) || state == null) {
            return NONE;
        }
        int done = 0;
        for (Step step : scripts.get(script)) {
            if (refusal(state, step.sort(), step.number(0), step.number(1)) >= 0) {
                break;
            }
            act(step.sort(), step.number(0), step.number(1));
            done++;
        }
        return done;
    }

    int most(int what) {
        if (state == null || what < 0 || what > 7) {
            return HIDDEN;
        }
        List<Peak> all = peaks();
        int[] told = new int[8];
        for (int i = 0; i < all.size(); i++) {
            Peak p = all.get(i);
            told[1] += p.persistence();
            told[4] = Math.max(told[4], p.generation());
            if (isKept(i)) {
                told[0] += p.place;
                told[2] += p.persistence();
                told[3] += basin(i, 2);
                told[6] = basin(i, 3) > basin(told[6], 3) ? i : told[6];
            }
        }
        told[5] = ~missed() & (1 << lines.size()) - 1;
        told[7] = Collections.max(state.samples);
        return told[what];
    }

    int image() {
        if (state == null) {
            return NONE;
        }
        image = state;
        return kept();
    }

    int back() {
        if (image == null) {
            return NONE;
        }
        state = image;
        past.clear();
        return kept();
    }

    int held(int what) {
        if (what < 0 || what > 4) {
            return HIDDEN;
        }
        return new int[] {state == null ? 0 : state.samples.size(), scripts.size(), tape.length(),
            log().size(), past.size()}[what];
    }
}
