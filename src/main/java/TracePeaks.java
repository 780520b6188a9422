import java.util.NoSuchElementException;

/** A trace of a detector and its peaks: what each call answers is promised in shared/DOC.md. */
public final class TracePeaks {
    /** None; refused. */
    public static final int NONE = -1;
    /** Not told. */
    public static final int HIDDEN = -1000000;

    private static final int MOST_SAMPLES = 48;
    private static final int TOP = 999;
    private static final int MOST_LINES = 8;
    private static final int MOST_LETTERS = 6;
    private static final int MOST_SCRIPTS = 4;
    private static final int MOST_STEPS = 12;
    private static final int MOST_BYTES = 400;
    private static final int MOST_UNDONE = 40;
    private static final int LOG_LENGTH = 60;
    private static final int MOST_DRAWS = 40;
    private static final int MOST_SHIFT = 9;

    private static final int SMOOTH = 0;
    private static final int MEDIAN = 1;
    private static final int FLAT = 2;
    private static final int TURN = 3;
    private static final int CLIP = 4;
    private static final int LIFT = 5;
    private static final int SCALE = 6;
    private static final int SET = 7;
    private static final int NOISE = 8;
    private static final int CUT = 9;
    private static final int SORTS = 10;

    /** Why an ACT is refused; NONE if it is not. These are the numbers of STATUS. */
    private static final int NO_PLACE = 0;
    private static final int OUT_OF_BOUNDS = 1;

    private final Reader reader = new Reader();
    private final Tape tape = reader.tape;
    private final Curve now = new Curve();
    private final Peaks found = new Peaks();
    private final Library lines = new Library();
    private final History history = new History();
    private final Log log = new Log();
    private final Script[] scripts = new Script[MOST_SCRIPTS];
    private int scriptCount;
    private int refusedPlaces;
    private int refusedBounds;
    private final Curve imageCurve = new Curve();
    private final Log imageLog = new Log();
    /** For what is asked apart from as it is now. */
    private final Curve trial = new Curve();
    private final Peaks tried = new Peaks();
    private final Library draftLines = new Library();
    private final Script draftScript = new Script();
    private final Draws draws = new Draws();
    private final Spelling spelling = new Spelling();

    public TracePeaks() {
        for (int i = 0; i < MOST_SCRIPTS; i++) {
            scripts[i] = new Script();
        }
    }

    // The TAPE and its texts.

    public int feed(int a, int b, int c, int d, int e) {
        int more = bytesIn(a) + bytesIn(b) + bytesIn(c) + bytesIn(d) + bytesIn(e);
        if (more > MOST_BYTES - tape.length) {
            return NONE;
        }
        tape.addWord(a);
        tape.addWord(b);
        tape.addWord(c);
        tape.addWord(d);
        tape.addWord(e);
        return tape.length;
    }

    public boolean end(int n) {
        if (n < 0 || n > tape.length) {
            return false;
        }
        tape.length = n;
        return true;
    }

    public int fault(int sort) {
        if (sort == 0) {
            return reader.readTrace(trial, draftLines);
        }
        return sort == 1 ? reader.readScript(draftScript) : -2;
    }

    public int text(int sort) {
        if (sort == 0 && reader.readTrace(trial, draftLines) == NONE) {
            return takeTrace();
        }
        boolean free = scriptCount < MOST_SCRIPTS;
        if (sort == 1 && free && reader.readScript(draftScript) == NONE) {
            return takeScript();
        }
        return NONE;
    }

    private int takeTrace() {
        now.copyFrom(trial);
        lines.copyFrom(draftLines);
        found.find(now);
        history.forget();
        log.forget();
        imageCurve.count = 0;
        imageLog.forget();
        tape.length = 0;
        return now.count;
    }

    private int takeScript() {
        scripts[scriptCount].copyFrom(draftScript);
        scriptCount++;
        tape.length = 0;
        return scriptCount - 1;
    }

    private static int bytesIn(int word) {
        int bytes = 0;
        for (int shift = 24; shift >= 0; shift -= 8) {
            if (((word >>> shift) & 255) != 0) {
                bytes++;
            }
        }
        return bytes;
    }

    // What is asked of the TRACE as it is.

    private boolean noTrace() {
        return now.count == 0;
    }

    private boolean isKept(int peak) {
        return peak >= 0 && peak < found.kept;
    }

    public int rule(int what) {
        if (noTrace()) {
            return NONE;
        }
        switch (what) {
            case 0: return now.count;
            case 1: return now.noise;
            case 2: return lines.reach;
            case 3: return lines.count;
            case 4: return found.count;
            case 5: return found.kept;
            case 6: return now.leastSample();
            case 7: return now.sumOfSamples();
            default: return NONE;
        }
    }

    public int sample(int place) {
        return now.has(place) ? now.samples[place] : NONE;
    }

    public int peak(int peak, int what) throws NoSuchElementException {
        if (peak < 0 || peak >= found.count || what < 0 || what > 8) {
            throw new NoSuchElementException("no such peak, or nothing such of it");
        }
        switch (what) {
            case 0: return found.placeOf(peak);
            case 1: return found.heightOf(peak);
            case 2: return found.valleyOf(peak);
            case 3: return found.deathOf(peak);
            case 4: return found.persistenceOf(peak);
            case 5: return found.parentOf(peak);
            case 6: return isKept(peak) ? 1 : 0;
            case 7: return found.generationOf(peak);
            default:
                lines.match(found, 0);
                return lines.takenBy(peak);
        }
    }

    public int basin(int peak, int what) {
        if (!isKept(peak)) {
            return NONE;
        }
        switch (what) {
            case 0: return found.basinStart(now, peak);
            case 1: return found.basinEnd(now, peak);
            case 2: return found.area(now, peak);
            case 3: return found.width(now, peak);
            default: return NONE;
        }
    }

    public int at(int place, int what) {
        if (!now.has(place)) {
            return NONE;
        }
        if (what == 0) {
            return found.beginningAt(place);
        }
        return what == 1 ? found.withBasinAt(now, place) : NONE;
    }

    public int line(int line, int what) {
        if (line < 0 || line >= lines.count) {
            return NONE;
        }
        switch (what) {
            case 0: return lines.place[line];
            case 1:
                lines.match(found, 0);
                return lines.taker[line];
            case 2: return lines.letters[line];
            default: return NONE;
        }
    }

    // The ACTS.

    public int smooth() {
        return ask(SMOOTH, 0, 0);
    }

    public int median() {
        return ask(MEDIAN, 0, 0);
    }

    public int flat() {
        return ask(FLAT, 0, 0);
    }

    public int turn() {
        return ask(TURN, 0, 0);
    }

    public int clip(int n) {
        return ask(CLIP, n, 0);
    }

    public int lift(int n) {
        return ask(LIFT, n, 0);
    }

    public int scale(int n, int d) {
        return ask(SCALE, n, d);
    }

    public int set(int place, int n) {
        return ask(SET, place, n);
    }

    public int noise(int n) {
        return ask(NOISE, n, 0);
    }

    public int cut(int place, int n) {
        return ask(CUT, place, n);
    }

    /** An ACT that a caller asks for: STATUS counts it if it is refused. */
    private int ask(int sort, int first, int second) {
        int refusal = now.refusal(sort, first, second);
        if (refusal == NO_PLACE) {
            refusedPlaces++;
        }
        if (refusal == OUT_OF_BOUNDS) {
            refusedBounds++;
        }
        return refusal == NONE ? act(sort, first, second) : NONE;
    }

    private int act(int sort, int first, int second) {
        history.keep(now);
        int answer = now.undergo(sort, first, second, found);
        found.find(now);
        log.add(sort, first, found.kept);
        return sort == SMOOTH || sort == MEDIAN ? found.kept : answer;
    }

    public int ways(int n, long seed) {
        if (noTrace() || n < 1 || n > MOST_DRAWS) {
            return NONE;
        }
        draws.x = seed;
        for (int i = 0; i < n; i++) {
            drawnAct();
        }
        return found.kept;
    }

    private void drawnAct() {
        int draw = draws.next(8);
        if (draw <= FLAT) {
            act(draw, 0, 0);
        } else if (draw <= 5) {
            int place = draws.next(now.count);
            act(SET, place, draws.next(1000));
        } else if (draw == 6) {
            act(NOISE, draws.next(200), 0);
        } else {
            int n = draws.next(100);
            act(SCALE, n, draws.next(9) + 1);
        }
    }

    public int status(int what) {
        if (what == NO_PLACE) {
            return refusedPlaces;
        }
        return what == OUT_OF_BOUNDS ? refusedBounds : NONE;
    }

    public int undo() {
        if (history.count == 0) {
            return NONE;
        }
        history.takeBack(now);
        log.dropLatest();
        found.find(now);
        return history.count;
    }

    public int log(int i, int what) {
        return log.tell(i, what);
    }

    // What is asked apart from as it is now.

    public int noiseFor(int k) {
        if (noTrace() || k < 1 || k > MOST_SAMPLES) {
            return NONE;
        }
        // PEAKS stand by falling PERSISTENCE, so PEAK k is the greatest that must not be KEPT.
        return k < found.count ? found.persistenceOf(k) : 0;
    }

    public int pieces(int height) {
        if (noTrace() || height < 0 || height > TOP) {
            return NONE;
        }
        int pieces = 0;
        boolean inside = false;
        for (int i = 0; i < now.count; i++) {
            boolean above = now.samples[i] >= height;
            if (above && !inside) {
                pieces++;
            }
            inside = above;
        }
        return pieces;
    }

    public int room(int what) {
        if (noTrace()) {
            return NONE;
        }
        if (what == 0) {
            int last = found.kept - 1;
            return (last > 0 ? found.persistenceOf(last) - 1 : TOP) - now.noise;
        }
        if (what == 1) {
            int next = found.kept;
            return now.noise - (next < found.count ? found.persistenceOf(next) : 0);
        }
        return NONE;
    }

    public int unlike() {
        if (imageCurve.count == 0) {
            return NONE;
        }
        tried.find(imageCurve);
        int all = Math.max(found.count, tried.count);
        int sum = 0;
        for (int i = 0; i < all; i++) {
            int here = i < found.count ? found.persistenceOf(i) : 0;
            int there = i < tried.count ? tried.persistenceOf(i) : 0;
            sum += Math.abs(here - there);
        }
        return sum;
    }

    public int shift(int what) {
        if (noTrace() || what < 0 || what > 1) {
            return HIDDEN;
        }
        int best = 0;
        int most = lines.match(found, 0);
        for (int far = 1; far <= MOST_SHIFT; far++) {
            int below = lines.match(found, -far);
            if (below > most) {
                most = below;
                best = -far;
            }
            int above = lines.match(found, far);
            if (above > most) {
                most = above;
                best = far;
            }
        }
        return what == 0 ? best : most;
    }

    public int missed() {
        if (noTrace()) {
            return NONE;
        }
        int all = (1 << lines.count) - 1;
        return all & ~matchedBits();
    }

    private int matchedBits() {
        lines.match(found, 0);
        int bits = 0;
        for (int i = 0; i < lines.count; i++) {
            if (lines.taker[i] != NONE) {
                bits |= 1 << i;
            }
        }
        return bits;
    }

    public int would(int place, int n, int what) {
        if (now.refusal(SET, place, n) != NONE || what < 0 || what > 2) {
            return NONE;
        }
        trial.copyFrom(now);
        trial.samples[place] = n;
        tried.find(trial);
        if (what == 0) {
            return tried.kept;
        }
        return what == 1 ? tried.placeOf(0) : tried.count;
    }

    public int solo() {
        int best = NONE;
        for (int i = 1; i < found.count; i++) {
            if (best == NONE || found.heightOf(i) > found.heightOf(best)) {
                best = i;
            }
        }
        return best;
    }

    public int tallest(int generation) {
        int best = NONE;
        for (int i = 0; i < found.count; i++) {
            if (found.generationOf(i) == generation
                    && (best == NONE || found.heightOf(i) > found.heightOf(best))) {
                best = i;
            }
        }
        return best;
    }

    public int change(int what) {
        if (noTrace() || what < 0 || what > 1) {
            return NONE;
        }
        trial.copyFrom(now);
        int best = NONE;
        int fewest = NONE;
        for (int i = 0; i < now.count; i++) {
            trial.samples[i] = 0;
            tried.find(trial);
            if (best == NONE || tried.kept < fewest) {
                best = i;
                fewest = tried.kept;
            }
            trial.samples[i] = now.samples[i];
        }
        return what == 0 ? best : fewest;
    }

    public int spell(int peak, int i) {
        if (!isKept(peak) || i < NONE) {
            return NONE;
        }
        lines.match(found, 0);
        spelling.length = 0;
        spelling.addName(lines, lines.takenBy(peak));
        spelling.add('@');
        spelling.addNumber(found.placeOf(peak));
        spelling.add(':');
        spelling.addNumber(found.heightOf(peak));
        if (i == NONE) {
            return spelling.length;
        }
        return i < spelling.length ? spelling.bytes[i] : NONE;
    }

    // SCRIPTS.

    private boolean hasScript(int script) {
        return script >= 0 && script < scriptCount;
    }

    public int step(int script, int i, int what) {
        if (!hasScript(script)) {
            return HIDDEN;
        }
        return scripts[script].tell(i, what);
    }

    public int run(int script, int what) {
        if (!hasScript(script) || noTrace() || what < 0 || what > 1) {
            return HIDDEN;
        }
        Script steps = scripts[script];
        trial.copyFrom(now);
        tried.find(trial);
        int done = 0;
        while (done < steps.count && steps.refusalOf(done, trial) == NONE) {
            trial.undergo(steps.sort[done], steps.first[done], steps.second[done], tried);
            tried.find(trial);
            done++;
        }
        if (what == 1) {
            return tried.kept;
        }
        return done < steps.count ? done : NONE;
    }

    public int perform(int script) {
        if (!hasScript(script) || noTrace()) {
            return NONE;
        }
        Script steps = scripts[script];
        int done = 0;
        while (done < steps.count && steps.refusalOf(done, now) == NONE) {
            act(steps.sort[done], steps.first[done], steps.second[done]);
            done++;
        }
        return done;
    }

    // Sums and extremes, IMAGES, what is held.

    public int most(int what) {
        if (noTrace()) {
            return HIDDEN;
        }
        switch (what) {
            case 0: return sumOfPlaces();
            case 1: return found.sumOfPersistences(found.count);
            case 2: return found.sumOfPersistences(found.kept);
            case 3: return sumOfAreas();
            case 4: return greatestGeneration();
            case 5: return matchedBits();
            case 6: return widestKept();
            case 7: return now.greatestSample();
            default: return HIDDEN;
        }
    }

    private int sumOfPlaces() {
        int sum = 0;
        for (int i = 0; i < found.kept; i++) {
            sum += found.placeOf(i);
        }
        return sum;
    }

    private int sumOfAreas() {
        int sum = 0;
        for (int i = 0; i < found.kept; i++) {
            sum += found.area(now, i);
        }
        return sum;
    }

    private int greatestGeneration() {
        int greatest = 0;
        for (int i = 0; i < found.count; i++) {
            greatest = Math.max(greatest, found.generationOf(i));
        }
        return greatest;
    }

    private int widestKept() {
        int widest = 0;
        for (int i = 1; i < found.kept; i++) {
            if (found.width(now, i) > found.width(now, widest)) {
                widest = i;
            }
        }
        return widest;
    }

    public int image() {
        if (noTrace()) {
            return NONE;
        }
        imageCurve.copyFrom(now);
        imageLog.copyFrom(log);
        return found.kept;
    }

    public int back() {
        if (imageCurve.count == 0) {
            return NONE;
        }
        now.copyFrom(imageCurve);
        log.copyFrom(imageLog);
        history.forget();
        found.find(now);
        return found.kept;
    }

    public int held(int what) {
        switch (what) {
            case 0: return now.count;
            case 1: return scriptCount;
            case 2: return tape.length;
            case 3: return log.shown();
            case 4: return history.count;
            default: return HIDDEN;
        }
    }

    /** The bytes that were fed. */
    private static final class Tape {
        final char[] bytes = new char[MOST_BYTES];
        int length;

        void addWord(int word) {
            for (int shift = 24; shift >= 0; shift -= 8) {
                int next = (word >>> shift) & 255;
                if (next != 0 && length < MOST_BYTES) {
                    bytes[length] = (char) next;
                    length++;
                }
            }
        }

        /** 0 beyond the end: no byte that was fed is 0. */
        char byteAt(int i) {
            return i >= 0 && i < length ? bytes[i] : 0;
        }

        boolean isDigit(int i) {
            char c = byteAt(i);
            return c >= '0' && c <= '9';
        }

        boolean isLetter(int i) {
            char c = byteAt(i);
            return c >= 'a' && c <= 'z';
        }
    }

    /** Reads the TAPE as a TRACE or a SCRIPT, part by part, up to the first FAULT. */
    private static final class Reader {
        final Tape tape = new Tape();
        private int next;
        private int fault;
        /** The number that was read last. */
        private int value;
        /** The letters that were read last. */
        private int wordStart;
        private int wordLength;
        private boolean noiseTold;
        private boolean reachTold;

        int readTrace(Curve curve, Library lines) {
            begin();
            curve.count = 0;
            curve.noise = 0;
            lines.count = 0;
            lines.reach = 1;
            boolean more = true;
            for (int i = 0; more && i <= MOST_BYTES; i++) {
                more = readClause(curve, lines) && readSemicolon(true);
            }
            if (fault == NONE && curve.count == 0) {
                fault = tape.length;
            }
            return fault;
        }

        int readScript(Script script) {
            begin();
            script.count = 0;
            boolean more = true;
            for (int i = 1; more && i <= MOST_STEPS; i++) {
                more = readStep(script) && readSemicolon(i < MOST_STEPS);
            }
            return fault;
        }

        private void begin() {
            next = 0;
            fault = NONE;
            noiseTold = false;
            reachTold = false;
        }

        private boolean fail(int place) {
            fault = place;
            return false;
        }

        private void skipBlanks() {
            while (next < tape.length && tape.byteAt(next) == ' ') {
                next++;
            }
        }

        /** Whether the TEXT goes on behind a ; that may stand here. */
        private boolean readSemicolon(boolean mayStand) {
            skipBlanks();
            if (next >= tape.length) {
                return false;
            }
            if (tape.byteAt(next) != ';' || !mayStand) {
                return fail(next);
            }
            next++;
            return true;
        }

        private boolean readWord() {
            skipBlanks();
            wordStart = next;
            while (next < tape.length && tape.isLetter(next)) {
                next++;
            }
            wordLength = next - wordStart;
            return wordLength > 0 || fail(wordStart);
        }

        private boolean isWord(String word) {
            if (word.length() != wordLength) {
                return false;
            }
            for (int i = 0; i < word.length(); i++) {
                if (word.charAt(i) != tape.byteAt(wordStart + i)) {
                    return false;
                }
            }
            return true;
        }

        /** Only numbers that may be below 0 may have a -. */
        private boolean readNumber(int least, int greatest) {
            skipBlanks();
            int start = next;
            boolean negative = least < 0 && tape.byteAt(next) == '-';
            if (negative) {
                next++;
            }
            int digits = 0;
            value = 0;
            while (next < tape.length && tape.isDigit(next)) {
                digits++;
                if (digits <= 3) {
                    value = value * 10 + (tape.byteAt(next) - '0');
                }
                next++;
            }
            if (negative) {
                value = -value;
            }
            boolean right = digits >= 1 && digits <= 3 && value >= least && value <= greatest;
            return right || fail(start);
        }

        private boolean readClause(Curve curve, Library lines) {
            if (!readWord()) {
                return false;
            }
            if (isWord("trace") && curve.count == 0) {
                return readSamples(curve);
            }
            if (isWord("noise") && !noiseTold) {
                noiseTold = true;
                boolean read = readNumber(0, TOP);
                curve.noise = value;
                return read;
            }
            if (isWord("reach") && !reachTold) {
                reachTold = true;
                boolean read = readNumber(0, 9);
                lines.reach = value;
                return read;
            }
            if (isWord("line") && lines.count < MOST_LINES) {
                return readLine(lines);
            }
            return fail(wordStart);
        }

        private boolean readSamples(Curve curve) {
            boolean more = true;
            for (int i = 0; more && i < MOST_SAMPLES; i++) {
                if (!readNumber(0, TOP)) {
                    return false;
                }
                curve.samples[i] = value;
                curve.count = i + 1;
                skipBlanks();
                more = tape.isDigit(next);
            }
            return !more || fail(next);
        }

        private boolean readLine(Library lines) {
            if (!readWord()) {
                return false;
            }
            if (wordLength > MOST_LETTERS || lines.hasName(tape, wordStart, wordLength)) {
                return fail(wordStart);
            }
            if (!readNumber(0, MOST_SAMPLES - 1)) {
                return false;
            }
            lines.add(tape, wordStart, wordLength, value);
            return true;
        }

        private boolean readStep(Script script) {
            if (!readWord()) {
                return false;
            }
            int sort = sortTold();
            if (sort == NONE) {
                return fail(wordStart);
            }
            int numbers = Script.numbersOf(sort);
            int first = 0;
            int second = 0;
            if (numbers > 0) {
                if (!readNumber(-TOP, TOP)) {
                    return false;
                }
                first = value;
            }
            if (numbers > 1) {
                if (!readNumber(-TOP, TOP)) {
                    return false;
                }
                second = value;
            }
            script.add(sort, first, second);
            return true;
        }

        private int sortTold() {
            for (int sort = 0; sort < SORTS; sort++) {
                if (isWord(Script.wordOf(sort))) {
                    return sort;
                }
            }
            return NONE;
        }
    }

    /** What ACTS change of a TRACE: its SAMPLES and its NOISE. Without SAMPLES it is no TRACE. */
    private static final class Curve {
        final int[] samples = new int[MOST_SAMPLES];
        int count;
        int noise;

        void copyFrom(Curve other) {
            count = other.count;
            noise = other.noise;
            System.arraycopy(other.samples, 0, samples, 0, MOST_SAMPLES);
        }

        boolean has(int place) {
            return place >= 0 && place < count;
        }

        int leastSample() {
            int least = TOP;
            for (int i = 0; i < count; i++) {
                least = Math.min(least, samples[i]);
            }
            return least;
        }

        int greatestSample() {
            int greatest = 0;
            for (int i = 0; i < count; i++) {
                greatest = Math.max(greatest, samples[i]);
            }
            return greatest;
        }

        int sumOfSamples() {
            int sum = 0;
            for (int i = 0; i < count; i++) {
                sum += samples[i];
            }
            return sum;
        }

        /** The first of the least SAMPLES from a place to another. */
        int leastPlace(int from, int to) {
            int least = from;
            for (int i = from + 1; i <= to; i++) {
                if (has(i) && has(least) && samples[i] < samples[least]) {
                    least = i;
                }
            }
            return least;
        }

        /** How far down from a place SAMPLES one behind another are no less than a height. */
        int runStart(int place, int height) {
            int start = place;
            while (start > 0 && start <= count && samples[start - 1] >= height) {
                start--;
            }
            return start;
        }

        int runEnd(int place, int height) {
            int end = place;
            while (end >= 0 && end + 1 < count && samples[end + 1] >= height) {
                end++;
            }
            return end;
        }

        /** Why an ACT can't be: NO_PLACE ahead of OUT_OF_BOUNDS; NONE if it can. */
        int refusal(int sort, int first, int second) {
            boolean needsPlace = sort == SET || sort == CUT;
            if (count == 0 || (needsPlace && !has(first))) {
                return NO_PLACE;
            }
            return inBounds(sort, first, second) ? NONE : OUT_OF_BOUNDS;
        }

        private boolean inBounds(int sort, int first, int second) {
            switch (sort) {
                case CLIP:
                case NOISE: return first >= 0 && first <= TOP;
                case LIFT: return first >= -TOP && first <= TOP;
                case SCALE: return first >= 0 && first <= 99 && second >= 1 && second <= 99;
                case SET: return second >= 0 && second <= TOP;
                case CUT: return second >= 1 && second <= count - first;
                default: return true;
            }
        }

        /** Does an ACT that is not refused, with the PEAKS as they are ahead of it. */
        int undergo(int sort, int first, int second, Peaks peaks) {
            switch (sort) {
                case SMOOTH:
                case MEDIAN: return blend(sort == MEDIAN);
                case FLAT: return flatten(peaks);
                case TURN: return reverse();
                case CLIP: return cap(first);
                case LIFT: return raise(first);
                case SCALE: return stretch(first, second);
                case SET: return put(first, second);
                case NOISE: return hush(first);
                case CUT: return keepOnly(first, second);
                default: return NONE;
            }
        }

        private int blend(boolean byMiddle) {
            int ahead = count > 0 ? samples[0] : 0;
            for (int i = 0; i < count; i++) {
                int it = samples[i];
                int behind = has(i + 1) ? samples[i + 1] : it;
                samples[i] = byMiddle ? middle(ahead, it, behind) : (ahead + 2 * it + behind) / 4;
                ahead = it;
            }
            return count;
        }

        private static int middle(int a, int b, int c) {
            int low = Math.min(a, b);
            int high = Math.max(a, b);
            return Math.max(low, Math.min(high, c));
        }

        private int flatten(Peaks peaks) {
            int[] level = peaks.flatLevels(this);
            int less = 0;
            for (int i = 0; i < count; i++) {
                if (level[i] < samples[i]) {
                    samples[i] = level[i];
                    less++;
                }
            }
            return less;
        }

        private int reverse() {
            for (int i = 0; i < count / 2; i++) {
                int swapped = samples[i];
                samples[i] = samples[count - 1 - i];
                samples[count - 1 - i] = swapped;
            }
            return samples[0];
        }

        private int cap(int n) {
            int less = 0;
            for (int i = 0; i < count; i++) {
                if (samples[i] > n) {
                    samples[i] = n;
                    less++;
                }
            }
            return less;
        }

        private int raise(int n) {
            for (int i = 0; i < count; i++) {
                samples[i] = Math.max(0, Math.min(TOP, samples[i] + n));
            }
            return leastSample();
        }

        private int stretch(int n, int d) {
            for (int i = 0; d > 0 && i < count; i++) {
                samples[i] = Math.min(TOP, samples[i] * n / d);
            }
            return greatestSample();
        }

        private int put(int place, int n) {
            if (!has(place)) {
                return NONE;
            }
            int was = samples[place];
            samples[place] = n;
            return was;
        }

        private int hush(int n) {
            int was = noise;
            noise = n;
            return was;
        }

        private int keepOnly(int place, int n) {
            int gone = count - n;
            for (int i = 0; i < n && has(place + i); i++) {
                samples[i] = samples[place + i];
            }
            count = n;
            return gone;
        }
    }

    /**
     * The PEAKS of a curve. They are held by their birth (the first to begin is birth 0, and never
     * dies) and told by their number.
     */
    private static final class Peaks {
        int count;
        int kept;
        private final int[] order = new int[MOST_SAMPLES];
        /** To which birth a place that came belongs; right only at the ends of what has come. */
        private final int[] owner = new int[MOST_SAMPLES];
        private final int[] first = new int[MOST_SAMPLES];
        private final int[] last = new int[MOST_SAMPLES];
        private final int[] place = new int[MOST_SAMPLES];
        private final int[] height = new int[MOST_SAMPLES];
        private final int[] valley = new int[MOST_SAMPLES];
        private final int[] death = new int[MOST_SAMPLES];
        private final int[] parent = new int[MOST_SAMPLES];
        private final int[] generation = new int[MOST_SAMPLES];
        private final int[] birth = new int[MOST_SAMPLES];
        private final int[] number = new int[MOST_SAMPLES];
        private final int[] level = new int[MOST_SAMPLES];

        void find(Curve curve) {
            count = 0;
            kept = 0;
            if (curve.count == 0) {
                return;
            }
            sortByHeight(curve);
            for (int i = 0; i < curve.count; i++) {
                owner[i] = NONE;
            }
            for (int i = 0; i < curve.count; i++) {
                come(curve, order[i]);
            }
            death[0] = curve.samples[order[curve.count - 1]];
            tellGenerations();
            giveNumbers();
            kept = 1;
            while (kept < count && persistenceOf(kept) > curve.noise) {
                kept++;
            }
        }

        private void sortByHeight(Curve curve) {
            for (int i = 0; i < curve.count; i++) {
                int slot = i;
                while (slot > 0 && curve.samples[order[slot - 1]] < curve.samples[i]) {
                    order[slot] = order[slot - 1];
                    slot--;
                }
                order[slot] = i;
            }
        }

        private void come(Curve curve, int at) {
            int left = at > 0 ? owner[at - 1] : NONE;
            int right = at + 1 < curve.count ? owner[at + 1] : NONE;
            if (left == NONE && right == NONE) {
                begin(at, curve.samples[at]);
            } else if (right == NONE) {
                last[left] = at;
                owner[at] = left;
            } else if (left == NONE) {
                first[right] = at;
                owner[at] = right;
            } else {
                join(left, right, at, curve.samples[at]);
            }
        }

        private void begin(int at, int sample) {
            place[count] = at;
            height[count] = sample;
            valley[count] = NONE;
            parent[count] = NONE;
            first[count] = at;
            last[count] = at;
            owner[at] = count;
            count++;
        }

        private void join(int left, int right, int at, int sample) {
            int earlier = Math.min(left, right);
            int later = Math.max(left, right);
            valley[later] = at;
            death[later] = sample;
            parent[later] = earlier;
            first[earlier] = first[left];
            last[earlier] = last[right];
            owner[at] = earlier;
            owner[first[earlier]] = earlier;
            owner[last[earlier]] = earlier;
        }

        /** A parent is always born ahead of those that end in it. */
        private void tellGenerations() {
            generation[0] = 0;
            for (int i = 1; i < count; i++) {
                int above = parent[i];
                generation[i] = above >= 0 && above < i ? generation[above] + 1 : 1;
            }
        }

        private void giveNumbers() {
            birth[0] = 0;
            for (int i = 1; i < count; i++) {
                int slot = i;
                while (slot > 1 && isAhead(i, birth[slot - 1])) {
                    birth[slot] = birth[slot - 1];
                    slot--;
                }
                birth[slot] = i;
            }
            for (int i = 0; i < count; i++) {
                number[birth[i]] = i;
            }
        }

        private boolean isAhead(int one, int other) {
            int more = (height[one] - death[one]) - (height[other] - death[other]);
            return more > 0 || (more == 0 && place[one] < place[other]);
        }

        int placeOf(int peak) {
            return place[birth[peak]];
        }

        int heightOf(int peak) {
            return height[birth[peak]];
        }

        int valleyOf(int peak) {
            return valley[birth[peak]];
        }

        int deathOf(int peak) {
            return death[birth[peak]];
        }

        int persistenceOf(int peak) {
            return heightOf(peak) - deathOf(peak);
        }

        int parentOf(int peak) {
            int above = parent[birth[peak]];
            return above == NONE ? NONE : number[above];
        }

        int generationOf(int peak) {
            return generation[birth[peak]];
        }

        int sumOfPersistences(int peaks) {
            int sum = 0;
            for (int i = 0; i < peaks; i++) {
                sum += persistenceOf(i);
            }
            return sum;
        }

        int beginningAt(int at) {
            for (int i = 0; i < count; i++) {
                if (placeOf(i) == at) {
                    return i;
                }
            }
            return NONE;
        }

        int basinStart(Curve curve, int peak) {
            int own = placeOf(peak);
            int beside = NONE;
            for (int i = 0; i < kept; i++) {
                int other = placeOf(i);
                if (other < own && other > beside) {
                    beside = other;
                }
            }
            return beside == NONE ? 0 : curve.leastPlace(beside + 1, own - 1);
        }

        int basinEnd(Curve curve, int peak) {
            int own = placeOf(peak);
            int beside = curve.count;
            for (int i = 0; i < kept; i++) {
                int other = placeOf(i);
                if (other > own && other < beside) {
                    beside = other;
                }
            }
            // The least SAMPLE between both belongs to the right one.
            return beside == curve.count ? beside - 1 : curve.leastPlace(own + 1, beside - 1) - 1;
        }

        int withBasinAt(Curve curve, int at) {
            for (int i = 0; i < kept; i++) {
                if (at >= basinStart(curve, i) && at <= basinEnd(curve, i)) {
                    return i;
                }
            }
            return NONE;
        }

        int area(Curve curve, int peak) {
            int start = basinStart(curve, peak);
            int end = basinEnd(curve, peak);
            int floor = deathOf(peak);
            int sum = 0;
            for (int i = start; i <= end; i++) {
                if (curve.has(i)) {
                    sum += Math.max(0, curve.samples[i] - floor);
                }
            }
            return sum;
        }

        int width(Curve curve, int peak) {
            int lowest = heightOf(peak) - persistenceOf(peak) / 2;
            int at = placeOf(peak);
            return curve.runEnd(at, lowest) - curve.runStart(at, lowest) + 1;
        }

        /** What each SAMPLE of the curve is once the PEAKS that are not KEPT are flat. */
        int[] flatLevels(Curve curve) {
            System.arraycopy(curve.samples, 0, level, 0, MOST_SAMPLES);
            for (int i = kept; i < count; i++) {
                int to = deathOf(i);
                int at = placeOf(i);
                if (heightOf(i) > to) {
                    int end = curve.runEnd(at, to + 1);
                    for (int j = curve.runStart(at, to + 1); j <= end; j++) {
                        level[j] = Math.min(level[j], to);
                    }
                }
            }
            return level;
        }
    }

    /** The LINES, and which PEAK took each of them when they were matched last. */
    private static final class Library {
        int count;
        int reach;
        final int[] place = new int[MOST_LINES];
        final int[] letters = new int[MOST_LINES];
        final int[] taker = new int[MOST_LINES];
        private final char[] names = new char[MOST_LINES * MOST_LETTERS];

        void copyFrom(Library other) {
            count = other.count;
            reach = other.reach;
            System.arraycopy(other.place, 0, place, 0, MOST_LINES);
            System.arraycopy(other.letters, 0, letters, 0, MOST_LINES);
            System.arraycopy(other.names, 0, names, 0, MOST_LINES * MOST_LETTERS);
        }

        void add(Tape tape, int start, int length, int where) {
            if (count >= MOST_LINES) {
                return;
            }
            for (int i = 0; i < length && i < MOST_LETTERS; i++) {
                names[count * MOST_LETTERS + i] = tape.byteAt(start + i);
            }
            letters[count] = length;
            place[count] = where;
            count++;
        }

        char letter(int line, int i) {
            return names[line * MOST_LETTERS + i];
        }

        boolean hasName(Tape tape, int start, int length) {
            for (int i = 0; i < count; i++) {
                if (letters[i] == length && isNamed(i, tape, start)) {
                    return true;
                }
            }
            return false;
        }

        private boolean isNamed(int line, Tape tape, int start) {
            for (int i = 0; i < letters[line]; i++) {
                if (letter(line, i) != tape.byteAt(start + i)) {
                    return false;
                }
            }
            return true;
        }

        /** Holds the KEPT PEAKS, moved by a shift, against the LINES: how many are MATCHED. */
        int match(Peaks peaks, int shift) {
            for (int i = 0; i < count; i++) {
                taker[i] = NONE;
            }
            int matched = 0;
            for (int peak = 0; peak < peaks.kept && matched < count; peak++) {
                int at = peaks.placeOf(peak) + shift;
                int nearest = nearestFree(at);
                if (nearest != NONE && Math.abs(place[nearest] - at) <= reach) {
                    taker[nearest] = peak;
                    matched++;
                }
            }
            return matched;
        }

        private int nearestFree(int at) {
            int nearest = NONE;
            for (int i = 0; i < count; i++) {
                if (taker[i] == NONE && (nearest == NONE
                        || Math.abs(place[i] - at) < Math.abs(place[nearest] - at))) {
                    nearest = i;
                }
            }
            return nearest;
        }

        /** The LINE that a PEAK took. */
        int takenBy(int peak) {
            for (int i = 0; i < count; i++) {
                if (taker[i] == peak) {
                    return i;
                }
            }
            return NONE;
        }
    }

    /** The STEPS of a SCRIPT. */
    private static final class Script {
        int count;
        final int[] sort = new int[MOST_STEPS];
        final int[] first = new int[MOST_STEPS];
        final int[] second = new int[MOST_STEPS];

        static int numbersOf(int sort) {
            switch (sort) {
                case CLIP:
                case LIFT:
                case NOISE: return 1;
                case SCALE:
                case SET:
                case CUT: return 2;
                default: return 0;
            }
        }

        static String wordOf(int sort) {
            switch (sort) {
                case SMOOTH: return "smooth";
                case MEDIAN: return "median";
                case FLAT: return "flat";
                case TURN: return "turn";
                case CLIP: return "clip";
                case LIFT: return "lift";
                case SCALE: return "scale";
                case SET: return "set";
                case NOISE: return "noise";
                default: return "cut";
            }
        }

        void copyFrom(Script other) {
            count = other.count;
            System.arraycopy(other.sort, 0, sort, 0, MOST_STEPS);
            System.arraycopy(other.first, 0, first, 0, MOST_STEPS);
            System.arraycopy(other.second, 0, second, 0, MOST_STEPS);
        }

        void add(int what, int one, int two) {
            if (count >= MOST_STEPS) {
                return;
            }
            sort[count] = what;
            first[count] = one;
            second[count] = two;
            count++;
        }

        int tell(int i, int what) {
            if (i < 0 || i >= count || what < 0 || what > numbersOf(sort[i])) {
                return HIDDEN;
            }
            if (what == 0) {
                return sort[i];
            }
            return what == 1 ? first[i] : second[i];
        }

        int refusalOf(int i, Curve curve) {
            return curve.refusal(sort[i], first[i], second[i]);
        }
    }

    /** How the TRACE was ahead of each of the latest ACTS. */
    private static final class History {
        int count;
        private int next;
        private final Curve[] rows = new Curve[MOST_UNDONE];

        History() {
            for (int i = 0; i < MOST_UNDONE; i++) {
                rows[i] = new Curve();
            }
        }

        void forget() {
            count = 0;
        }

        void keep(Curve curve) {
            rows[next].copyFrom(curve);
            next = (next + 1) % MOST_UNDONE;
            count = Math.min(count + 1, MOST_UNDONE);
        }

        void takeBack(Curve curve) {
            next = (next + MOST_UNDONE - 1) % MOST_UNDONE;
            count--;
            curve.copyFrom(rows[next]);
        }
    }

    /** The LOG. It holds more than it shows: what an UNDONE ACT had pushed out is shown again. */
    private static final class Log {
        private static final int ROWS = LOG_LENGTH + MOST_UNDONE;
        private int count;
        private int next;
        private final int[] sort = new int[ROWS];
        private final int[] first = new int[ROWS];
        private final int[] kept = new int[ROWS];

        void copyFrom(Log other) {
            count = other.count;
            next = other.next;
            System.arraycopy(other.sort, 0, sort, 0, ROWS);
            System.arraycopy(other.first, 0, first, 0, ROWS);
            System.arraycopy(other.kept, 0, kept, 0, ROWS);
        }

        void forget() {
            count = 0;
        }

        void add(int what, int number, int peaks) {
            sort[next] = what;
            first[next] = number;
            kept[next] = peaks;
            next = (next + 1) % ROWS;
            count = Math.min(count + 1, ROWS);
        }

        void dropLatest() {
            if (count > 0) {
                next = (next + ROWS - 1) % ROWS;
                count--;
            }
        }

        int shown() {
            return Math.min(count, LOG_LENGTH);
        }

        int tell(int i, int what) {
            if (i < 0 || i >= shown()) {
                return HIDDEN;
            }
            int row = (next + ROWS - 1 - i) % ROWS;
            switch (what) {
                case 0: return sort[row];
                case 1: return first[row];
                case 2: return kept[row];
                default: return HIDDEN;
            }
        }
    }

    /** The draws of WAYS. */
    private static final class Draws {
        long x;

        int next(int bound) {
            x = x * 6364136223846793005L + 1442695040888963407L;
            return bound > 0 ? (int) ((x >>> 33) % bound) : 0;
        }
    }

    /** The bytes of a SPELL: a NAME or ?, @, a place, :, a HEIGHT. */
    private static final class Spelling {
        private static final int MOST = MOST_LETTERS + 1 + 2 + 1 + 3;
        final int[] bytes = new int[MOST];
        int length;

        void add(int next) {
            if (length < MOST) {
                bytes[length] = next;
                length++;
            }
        }

        void addName(Library lines, int line) {
            if (line == NONE) {
                add('?');
                return;
            }
            for (int i = 0; i < lines.letters[line]; i++) {
                add(lines.letter(line, i));
            }
        }

        void addNumber(int n) {
            if (n >= 100) {
                add('0' + n / 100 % 10);
            }
            if (n >= 10) {
                add('0' + n / 10 % 10);
            }
            add('0' + n % 10);
        }
    }
}
