import java.util.Arrays;

/**
 * A language by bells between two valleys: bells, words, what gets over the ridge, laws of a
 * small language of texts, steps that can be taken back, and questions about what was heard.
 *
 * <p>All rows are made in the constructor and used again, so no call makes an object.
 */
public final class BellTongue {

    /** None. */
    public static final int NONE = -1;

    private static final int OTHERS = -2;

    private static final int MOST_BELLS = 6;
    private static final int MOST_WORDS = 10;
    private static final int MOST_STROKES = 4;
    private static final int MOST_RUNG = 24;
    private static final int MOST_SUNDAYS = 20;
    private static final int MOST_STEPS = 30;
    private static final int MOST_TEXTS = 4;
    private static final int MOST_BYTES = 300;
    private static final int MOST_CLAUSES = 24;
    private static final int MOST_LINES = 8;
    private static final int MOST_TOWER = 12;
    private static final int MOST_HANDS = 99;
    private static final int LAST_HOUR = 9999;

    /** What readings and sums are held at. */
    private static final int LIMIT = 1000000;

    /** Stands on top of a BELL in RUNG that was HEARD. */
    private static final int WAS_HEARD = 10;

    private final World world = new World();
    private final World kept = new World();
    private final Text[] texts = new Text[MOST_TEXTS];
    private final Tape tape = new Tape();
    private final Reader reader = new Reader(tape);
    private final Ringers ringers = new Ringers();
    private final Judge judge;
    private final Ear ear;

    public BellTongue() {
        for (int i = 0; i < MOST_TEXTS; i++) {
            texts[i] = new Text();
        }
        judge = new Judge(world, texts);
        ear = new Ear(world, judge);
    }

    // ---- what is told -----------------------------------------------------------------

    public int bell(int loud, int pitch, int men) {
        return world.lexicon.addBell(loud, pitch, men);
    }

    public int word(int a, int b, int c, int d, int kind, int means) {
        return world.addWord(a, b, c, d, kind, means);
    }

    public boolean hands(int men) {
        if (!within(men, 0, MOST_HANDS)) {
            return false;
        }
        world.hands = men;
        return true;
    }

    public int feed(int a, int b, int c, int d, int e) {
        if (tape.length + 20 > MOST_BYTES) {
            return NONE;
        }
        tape.append(a);
        tape.append(b);
        tape.append(c);
        tape.append(d);
        tape.append(e);
        return tape.length;
    }

    public int end(int n) {
        if (!within(n, 0, tape.length)) {
            return NONE;
        }
        tape.length = n;
        return n;
    }

    public int text() {
        if (world.texts >= MOST_TEXTS) {
            return NONE;
        }
        if (!reader.reads(texts[world.texts])) {
            return NONE;
        }
        world.texts++;
        return world.texts - 1;
    }

    public int fault(int what) {
        switch (what) {
            case 0:
                return reader.fault;
            case 1:
                return reader.place;
            default:
                return NONE;
        }
    }

    public boolean by(int text) {
        if (text != NONE && !world.hasText(text)) {
            return false;
        }
        world.ruling = text;
        judge.forget();
        return true;
    }

    // ---- steps ------------------------------------------------------------------------

    public int ring(int bell) {
        if (!world.canStrike(bell)) {
            return NONE;
        }
        world.keepStep();
        return strike(bell);
    }

    public int speak(int word) {
        if (!world.canSay(word)) {
            return NONE;
        }
        world.keepStep();
        return say(word);
    }

    public boolean set(boolean frost, int to) {
        Season now = world.now;
        int was = frost ? now.frost : now.wind;
        if (!within(to, 0, 9) || was == to) {
            return false;
        }
        world.keepStep();
        if (frost) {
            now.frost = to;
        } else {
            now.wind = to;
        }
        return true;
    }

    public int hour(int n) {
        if (!within(n, 1, 60) || world.now.hour + n > LAST_HOUR) {
            return NONE;
        }
        passHours(n);
        return world.now.hour;
    }

    public int sunday() {
        world.keepStep();
        return world.now.writeSunday(ear.waysToRead(true));
    }

    public int played(int text) {
        if (!world.hasText(text)) {
            return OTHERS;
        }
        Text script = texts[text];
        for (int i = 0; i < script.clauses; i++) {
            if (!plays(script, i)) {
                return i;
            }
        }
        return NONE;
    }

    public int centuries(int seed, int n) {
        Lexicon lexicon = world.lexicon;
        if (!within(seed, 0, 9999) || !within(n, 1, 40)
                || lexicon.bells == 0 || lexicon.words == 0) {
            return NONE;
        }
        world.keepStep();
        world.now.x = seed * 2 + 101;
        for (int i = 0; i < n; i++) {
            chance();
        }
        return world.now.hour;
    }

    public int undo() {
        return world.steps.takeBack(world.now);
    }

    private int strike(int bell) {
        Season now = world.now;
        return now.addStroke(bell, judge.getsOver(bell, now.strokes, now.wind));
    }

    private int say(int word) {
        Lexicon lexicon = world.lexicon;
        Season now = world.now;
        int got = 0;
        for (int i = 0; i < lexicon.length[word]; i++) {
            int bell = lexicon.strokeOf(word, i);
            got += now.addStroke(bell, judge.getsOver(bell, now.strokes, now.wind));
        }
        return got;
    }

    /** Whether all of these HOURS could pass; those that can do, each as a STEP of its own. */
    private boolean passHours(int n) {
        for (int i = 0; i < n; i++) {
            if (world.now.hour >= LAST_HOUR) {
                return false;
            }
            world.keepStep();
            world.now.passHour();
        }
        return true;
    }

    /** Whether this CLAUSE of a TEXT could be done as by hand; laws do nothing here. */
    private boolean plays(Text script, int clause) {
        int first = script.told(clause, 0);
        switch (script.what(clause)) {
            case Tape.BELL:
                return bell(first, script.told(clause, 1), script.told(clause, 2)) != NONE;
            case Tape.WORD:
                return world.addWord(script.told(clause, 2), script.told(clause, 3),
                        script.told(clause, 4), script.told(clause, 5),
                        first, script.told(clause, 1)) != NONE;
            case Tape.RING:
                return ring(first) != NONE;
            case Tape.SPEAK:
                return speak(first) != NONE;
            case Tape.WIND:
                return set(false, first);
            case Tape.FROST:
                return set(true, first);
            case Tape.HOUR:
                return passHours(first);
            case Tape.SUNDAY:
                world.keepStep();
                world.now.writeSunday(ear.waysToRead(true));
                return true;
            default:
                return true;
        }
    }

    /** One of the things that come by CENTURIES; what can't be is passed over. */
    private void chance() {
        Season now = world.now;
        Lexicon lexicon = world.lexicon;
        if (lexicon.bells == 0 || lexicon.words == 0) {
            return;
        }
        int x = now.x;
        now.turn();
        switch (x % 5) {
            case 0:
                if (world.canStrike(x % lexicon.bells)) {
                    strike(x % lexicon.bells);
                }
                break;
            case 1:
                if (world.canSay(x % lexicon.words)) {
                    say(x % lexicon.words);
                }
                break;
            case 2:
                now.writeSunday(ear.waysToRead(true));
                break;
            default:
                if (now.hour < LAST_HOUR) {
                    now.passHour();
                }
                break;
        }
    }

    // ---- what is ----------------------------------------------------------------------

    public int ofBell(int bell, int what) {
        Lexicon lexicon = world.lexicon;
        if (!lexicon.hasBell(bell)) {
            return NONE;
        }
        switch (what) {
            case 0:
                return lexicon.loud[bell];
            case 1:
                return lexicon.pitch[bell];
            case 2:
                return lexicon.men[bell];
            case 3:
                return judge.getsOver(bell, world.now.strokes, world.now.wind) ? 1 : 0;
            default:
                return NONE;
        }
    }

    public int ofWord(int word, int what) {
        Lexicon lexicon = world.lexicon;
        if (!lexicon.hasWord(word)) {
            return OTHERS;
        }
        switch (what) {
            case 0:
                return lexicon.kind[word];
            case 1:
                return lexicon.means[word];
            case 2:
                return lexicon.length[word];
            case 3:
                return lexicon.menFor(word);
            default:
                return within(what, 4, 7) ? lexicon.strokeOf(word, what - 4) : OTHERS;
        }
    }

    public int is(int what) {
        Season now = world.now;
        switch (what) {
            case 0:
                return now.wind;
            case 1:
                return now.frost;
            case 2:
                return now.hour;
            case 3:
                return world.hands;
            case 4:
                return now.x;
            default:
                return OTHERS;
        }
    }

    public int rung(int i) {
        Season now = world.now;
        if (i == NONE) {
            return now.strokes;
        }
        return within(i, 0, now.strokes - 1) ? now.row[i] : OTHERS;
    }

    public int heard(int i) {
        ear.listen();
        if (i == NONE) {
            return ear.count;
        }
        return within(i, 0, ear.count - 1) ? ear.row[i] : OTHERS;
    }

    public int book(int i, int what) {
        Season now = world.now;
        if (i == NONE) {
            return now.sundays;
        }
        if (!within(i, 0, now.sundays - 1) || !within(what, 0, Season.NOTES - 1)) {
            return OTHERS;
        }
        return now.pages[i * Season.NOTES + what];
    }

    // ---- readings ---------------------------------------------------------------------

    public int readings(boolean sense) {
        return ear.waysToRead(sense);
    }

    public int reading(boolean sense, int i) {
        return ear.firstReading(sense, i);
    }

    public boolean weight(int word, int weight) {
        if (!world.lexicon.hasWord(word) || !within(weight, 0, 99)) {
            return false;
        }
        world.told.weight[word] = weight;
        return true;
    }

    public long meant(int word, int p, boolean low) {
        if (!world.lexicon.hasWord(word) || !within(p, 0, 10)) {
            return NONE;
        }
        ear.listen();
        long one = 0;
        long all = 0;
        for (int w = 0; w < world.lexicon.words; w++) {
            long odds = world.told.weight[w] * ear.likelihood(w, p);
            all += odds;
            if (w == word) {
                one = odds;
            }
        }
        if (all == 0) {
            return low ? 1 : 0;
        }
        long shared = commonDivisor(all, one);
        if (shared == 0) {
            return NONE;
        }
        return (low ? all : one) / shared;
    }

    // ---- words ------------------------------------------------------------------------

    public int shortest(int means) {
        Lexicon lexicon = world.lexicon;
        int best = NONE;
        for (int w = 0; w < lexicon.words; w++) {
            boolean shorter = best == NONE || lexicon.length[w] < lexicon.length[best];
            if (lexicon.means[w] == means && shorter && allGetOver(w, world.now.wind)) {
                best = w;
            }
        }
        return best;
    }

    public int atWorst(int word) {
        if (!world.lexicon.hasWord(word)) {
            return NONE;
        }
        int worst = NONE;
        for (int wind = 0; wind <= 9 && allGetOver(word, wind); wind++) {
            worst = wind;
        }
        return worst;
    }

    public int away(int one, int other) {
        Lexicon lexicon = world.lexicon;
        if (!lexicon.hasWord(one) || !lexicon.hasWord(other)) {
            return NONE;
        }
        return lexicon.between(one, other);
    }

    public int apart(int d) {
        return within(d, 1, 4) ? world.lexicon.toldApart(d) : NONE;
    }

    public int nearest() {
        ear.listen();
        Lexicon lexicon = world.lexicon;
        int fewest = MOST_RUNG + MOST_STROKES;
        int bits = 0;
        for (int w = 0; w < lexicon.words; w++) {
            int far = lexicon.edits(w, ear.row, 0, ear.count);
            if (far < fewest) {
                fewest = far;
                bits = 0;
            }
            if (far == fewest) {
                bits |= 1 << w;
            }
        }
        return bits;
    }

    /** RUNG's room and HANDS aside: each STROKE as if those ahead of it were RUNG as well. */
    private boolean allGetOver(int word, int wind) {
        Lexicon lexicon = world.lexicon;
        for (int i = 0; i < lexicon.length[word]; i++) {
            if (!judge.getsOver(lexicon.strokeOf(word, i), world.now.strokes + i, wind)) {
                return false;
            }
        }
        return true;
    }

    // ---- two valleys ------------------------------------------------------------------

    public boolean hears(int word, int as) {
        if (!world.lexicon.hasWord(word) || !world.lexicon.hasWord(as)) {
            return false;
        }
        world.told.heardAs[word] = as;
        return true;
    }

    public int settles(int word, int what) {
        if (!world.lexicon.hasWord(word)) {
            return NONE;
        }
        switch (what) {
            case 0:
                return Integer.bitCount(world.told.allFrom(word));
            case 1:
                return Integer.bitCount(roundOf(word));
            case 2:
                return lowestOf(roundOf(word));
            default:
                return NONE;
        }
    }

    public int line(int one, int other) {
        if (one == NONE) {
            world.told.lines = 0;
            return 0;
        }
        if (!world.lexicon.hasWord(one) || !world.lexicon.hasWord(other)) {
            return OTHERS;
        }
        return world.told.addLine(one, other);
    }

    public int whose() {
        int bits = 0;
        for (int t = 0; t < world.texts; t++) {
            if (allLinesRight(texts[t])) {
                bits |= 1 << t;
            }
        }
        return bits;
    }

    public int pairs() {
        Told told = world.told;
        int bits = 0;
        for (int i = 0; i < told.lines; i++) {
            int first = world.lexicon.kind[told.first[i]];
            int second = world.lexicon.kind[told.second[i]];
            bits |= 1 << (4 * first + second);
        }
        return bits;
    }

    public int tower(int tower, int bell) {
        if (!within(tower, 0, 1)) {
            return OTHERS;
        }
        if (bell == NONE) {
            world.told.towerLength[tower] = 0;
            return 0;
        }
        return world.lexicon.hasBell(bell) ? world.told.addToTower(tower, bell) : OTHERS;
    }

    public int lies(boolean run) {
        return run ? world.told.longestRun() : world.told.firstLie();
    }

    /** Behind as many times as there are WORDS, one is in the round for sure. */
    private int roundOf(int word) {
        int at = word;
        for (int i = 0; i < MOST_WORDS; i++) {
            at = world.told.heardAs[at];
        }
        return world.told.allFrom(at);
    }

    private boolean allLinesRight(Text text) {
        Told told = world.told;
        for (int i = 0; i < told.lines; i++) {
            if (!judge.follows(text, told.first[i], told.second[i], 1)) {
                return false;
            }
        }
        return true;
    }

    // ---- bells ------------------------------------------------------------------------

    public int newBell(int d) {
        if (!within(d, 1, 9)) {
            return NONE;
        }
        for (int pitch = 0; pitch <= 9; pitch++) {
            if (world.lexicon.roomAround(pitch) >= d) {
                return pitch;
            }
        }
        return NONE;
    }

    public int farthest() {
        int best = 0;
        for (int pitch = 0; pitch <= 9; pitch++) {
            best = Math.max(best, world.lexicon.roomAround(pitch));
        }
        return best;
    }

    public int ropes() {
        Lexicon lexicon = world.lexicon;
        int bits = 0;
        for (int b = 0; b < lexicon.bells; b++) {
            if (lexicon.men[b] <= world.hands) {
                bits |= 1 << b;
            }
        }
        return bits;
    }

    public int changes(int n, int from, int to, boolean row) {
        return ringers.fewest(n, from, to, row);
    }

    public int takes(int words) {
        Lexicon lexicon = world.lexicon;
        if (!within(words, 0, (1 << lexicon.words) - 1)) {
            return NONE;
        }
        int sum = 0;
        for (int w = 0; w < lexicon.words; w++) {
            if ((words >> w & 1) != 0) {
                sum += lexicon.length[w];
            }
        }
        return sum;
    }

    // ---- the image --------------------------------------------------------------------

    public int image() {
        kept.copyFrom(world);
        return world.now.hour;
    }

    public int back() {
        world.copyFrom(kept);
        judge.forget();
        return world.now.hour;
    }

    public int about(int what) {
        switch (what) {
            case 0:
                return world.lexicon.bells;
            case 1:
                return world.lexicon.words;
            case 2:
                return world.texts;
            case 3:
                return world.ruling;
            case 4:
                return world.steps.count;
            case 5:
                return world.told.lines;
            case 6:
                return tape.length;
            default:
                return OTHERS;
        }
    }

    private static boolean within(int value, int low, int high) {
        return value >= low && value <= high;
    }

    private static int lowestOf(int bits) {
        return Integer.bitCount((bits & -bits) - 1);
    }

    private static long commonDivisor(long one, long other) {
        long a = one;
        long b = other;
        for (int i = 0; i < 100 && b != 0; i++) {
            long rest = a % b;
            a = b;
            b = rest;
        }
        return a;
    }

    /** All that an image keeps. */
    private static final class World {
        final Lexicon lexicon = new Lexicon();
        final Season now = new Season();
        final Steps steps = new Steps();
        final Told told = new Told();
        int hands = 9;
        int texts;
        int ruling = NONE;

        boolean hasText(int text) {
            return text >= 0 && text < texts;
        }

        int addWord(int a, int b, int c, int d, int kind, int means) {
            int word = lexicon.addWord(a, b, c, d, kind, means);
            if (word != NONE) {
                told.startWord(word);
            }
            return word;
        }

        boolean canStrike(int bell) {
            return lexicon.hasBell(bell) && lexicon.men[bell] <= hands
                    && now.strokes < MOST_RUNG;
        }

        boolean canSay(int word) {
            return lexicon.hasWord(word) && lexicon.menFor(word) <= hands
                    && now.strokes + lexicon.length[word] <= MOST_RUNG;
        }

        void keepStep() {
            steps.keep(now);
        }

        /** TEXTS by their number alone: those that an image has can't change while it stands. */
        void copyFrom(World other) {
            lexicon.copyFrom(other.lexicon);
            now.copyFrom(other.now);
            steps.copyFrom(other.steps);
            told.copyFrom(other.told);
            hands = other.hands;
            texts = other.texts;
            ruling = other.ruling;
        }
    }

    /** BELLS and WORDS. */
    private static final class Lexicon {
        int bells;
        final int[] loud = new int[MOST_BELLS];
        final int[] pitch = new int[MOST_BELLS];
        final int[] men = new int[MOST_BELLS];
        int words;
        final int[] strokes = new int[MOST_WORDS * MOST_STROKES];
        final int[] length = new int[MOST_WORDS];
        final int[] kind = new int[MOST_WORDS];
        final int[] means = new int[MOST_WORDS];
        private final int[] cost = new int[MOST_STROKES + 1];
        private final int[] tooNear = new int[MOST_WORDS];

        boolean hasBell(int bell) {
            return bell >= 0 && bell < bells;
        }

        boolean hasWord(int word) {
            return word >= 0 && word < words;
        }

        int addBell(int newLoud, int newPitch, int newMen) {
            if (bells >= MOST_BELLS || !within(newLoud, 1, 9)
                    || !within(newPitch, 0, 9) || !within(newMen, 1, 9)) {
                return NONE;
            }
            loud[bells] = newLoud;
            pitch[bells] = newPitch;
            men[bells] = newMen;
            bells++;
            return bells - 1;
        }

        int addWord(int a, int b, int c, int d, int newKind, int newMeans) {
            if (words >= MOST_WORDS || !within(newKind, 0, 3) || !within(newMeans, 0, 99)) {
                return NONE;
            }
            int at = words * MOST_STROKES;
            strokes[at] = a;
            strokes[at + 1] = b;
            strokes[at + 2] = c;
            strokes[at + 3] = d;
            int count = 0;
            while (count < MOST_STROKES && hasBell(strokes[at + count])) {
                count++;
            }
            for (int i = count; i < MOST_STROKES; i++) {
                if (strokes[at + i] != NONE) {
                    return NONE;
                }
            }
            if (count == 0) {
                return NONE;
            }
            length[words] = count;
            kind[words] = newKind;
            means[words] = newMeans;
            words++;
            return words - 1;
        }

        int strokeOf(int word, int i) {
            return hasWord(word) && within(i, 0, MOST_STROKES - 1)
                    ? strokes[word * MOST_STROKES + i] : NONE;
        }

        int menFor(int word) {
            int most = 0;
            for (int i = 0; i < length[word]; i++) {
                int bell = strokes[word * MOST_STROKES + i];
                most = Math.max(most, hasBell(bell) ? men[bell] : 0);
            }
            return most;
        }

        int between(int one, int other) {
            return edits(one, strokes, other * MOST_STROKES, length[other]);
        }

        /** The fewest STROKES changed, put in or left out between a WORD and a part of a row. */
        int edits(int word, int[] row, int from, int count) {
            int size = length[word];
            for (int j = 0; j <= size; j++) {
                cost[j] = j;
            }
            for (int i = 0; i < count; i++) {
                int slanting = cost[0];
                cost[0] = i + 1;
                for (int j = 1; j <= size; j++) {
                    boolean same = row[from + i] == strokes[word * MOST_STROKES + j - 1];
                    int changed = same ? slanting : slanting + 1;
                    slanting = cost[j];
                    cost[j] = Math.min(changed, Math.min(slanting, cost[j - 1]) + 1);
                }
            }
            return cost[size];
        }

        /** Sets come in their order as numbers, so that a later one must be greater to win. */
        int toldApart(int d) {
            findTooNear(d);
            int best = 0;
            for (int set = 1; set < 1 << words; set++) {
                if (Integer.bitCount(set) > Integer.bitCount(best) && allFar(set)) {
                    best = set;
                }
            }
            return best;
        }

        private void findTooNear(int d) {
            for (int one = 0; one < words; one++) {
                tooNear[one] = 0;
                for (int other = 0; other < one; other++) {
                    if (between(one, other) < d) {
                        tooNear[one] |= 1 << other;
                    }
                }
            }
        }

        private boolean allFar(int set) {
            for (int w = 0; w < words; w++) {
                if ((set >> w & 1) != 0 && (tooNear[w] & set) != 0) {
                    return false;
                }
            }
            return true;
        }

        /** How far a PITCH is from all BELLS at least. */
        int roomAround(int newPitch) {
            int room = 10;
            for (int b = 0; b < bells; b++) {
                room = Math.min(room, Math.abs(pitch[b] - newPitch));
            }
            return room;
        }

        void copyFrom(Lexicon other) {
            bells = other.bells;
            words = other.words;
            System.arraycopy(other.loud, 0, loud, 0, MOST_BELLS);
            System.arraycopy(other.pitch, 0, pitch, 0, MOST_BELLS);
            System.arraycopy(other.men, 0, men, 0, MOST_BELLS);
            System.arraycopy(other.strokes, 0, strokes, 0, MOST_WORDS * MOST_STROKES);
            System.arraycopy(other.length, 0, length, 0, MOST_WORDS);
            System.arraycopy(other.kind, 0, kind, 0, MOST_WORDS);
            System.arraycopy(other.means, 0, means, 0, MOST_WORDS);
        }
    }

    /** What a STEP can change: RUNG, WIND, FROST, HOUR, BOOK and X. */
    private static final class Season {
        static final int NOTES = 4;

        int wind = 2;
        int frost;
        int hour;
        int x = 101;
        int strokes;
        final int[] row = new int[MOST_RUNG];
        int sundays;
        final int[] pages = new int[MOST_SUNDAYS * NOTES];

        int addStroke(int bell, boolean over) {
            if (strokes >= MOST_RUNG) {
                return 0;
            }
            row[strokes] = over ? bell + WAS_HEARD : bell;
            strokes++;
            return over ? 1 : 0;
        }

        void turn() {
            x = (x * 313 + 199) % 30341;
        }

        void passHour() {
            hour++;
            wind = x % 10;
            turn();
            frost = Math.max(0, Math.min(9, frost + x % 3 - 1));
            turn();
        }

        int countHeard() {
            int got = 0;
            for (int i = 0; i < strokes; i++) {
                if (row[i] >= WAS_HEARD) {
                    got++;
                }
            }
            return got;
        }

        /** Answers the readings it was given. */
        int writeSunday(int readings) {
            if (sundays >= MOST_SUNDAYS) {
                sundays = MOST_SUNDAYS - 1;
                System.arraycopy(pages, NOTES, pages, 0, sundays * NOTES);
            }
            int at = sundays * NOTES;
            pages[at] = hour;
            pages[at + 1] = strokes;
            pages[at + 2] = countHeard();
            pages[at + 3] = readings;
            sundays++;
            strokes = 0;
            return readings;
        }

        void copyFrom(Season other) {
            wind = other.wind;
            frost = other.frost;
            hour = other.hour;
            x = other.x;
            strokes = other.strokes;
            System.arraycopy(other.row, 0, row, 0, other.strokes);
            sundays = other.sundays;
            System.arraycopy(other.pages, 0, pages, 0, other.sundays * NOTES);
        }
    }

    /** The latest STEPS, each as all was ahead of it; the eldest gives way to a new one. */
    private static final class Steps {
        int count;
        private int eldest;
        private final Season[] ahead = new Season[MOST_STEPS];

        Steps() {
            for (int i = 0; i < MOST_STEPS; i++) {
                ahead[i] = new Season();
            }
        }

        void keep(Season now) {
            ahead[(eldest + count) % MOST_STEPS].copyFrom(now);
            if (count < MOST_STEPS) {
                count++;
            } else {
                eldest = (eldest + 1) % MOST_STEPS;
            }
        }

        int takeBack(Season now) {
            if (count == 0) {
                return NONE;
            }
            count--;
            now.copyFrom(ahead[(eldest + count) % MOST_STEPS]);
            return count;
        }

        void copyFrom(Steps other) {
            count = other.count;
            eldest = other.eldest;
            for (int i = 0; i < MOST_STEPS; i++) {
                ahead[i].copyFrom(other.ahead[i]);
            }
        }
    }

    /** What is told of WORDS and towers: weights, what is heard as what, LINES, two rows. */
    private static final class Told {
        final int[] weight = new int[MOST_WORDS];
        final int[] heardAs = new int[MOST_WORDS];
        int lines;
        final int[] first = new int[MOST_LINES];
        final int[] second = new int[MOST_LINES];
        final int[] towerLength = new int[2];
        private final int[] towers = new int[2 * MOST_TOWER];

        void startWord(int word) {
            weight[word] = 1;
            heardAs[word] = word;
        }

        int addLine(int one, int other) {
            if (lines >= MOST_LINES) {
                return OTHERS;
            }
            first[lines] = one;
            second[lines] = other;
            lines++;
            return lines;
        }

        int addToTower(int tower, int bell) {
            if (towerLength[tower] >= MOST_TOWER) {
                return OTHERS;
            }
            towers[tower * MOST_TOWER + towerLength[tower]] = bell;
            towerLength[tower]++;
            return towerLength[tower];
        }

        /** WORDS (bits) that come one behind the other from this one on, itself among them. */
        int allFrom(int word) {
            int bits = 0;
            int at = word;
            for (int i = 0; i < MOST_WORDS; i++) {
                bits |= 1 << at;
                at = heardAs[at];
            }
            return bits;
        }

        int firstLie() {
            int both = Math.min(towerLength[0], towerLength[1]);
            for (int i = 0; i < both; i++) {
                if (towers[i] != towers[MOST_TOWER + i]) {
                    return i;
                }
            }
            return towerLength[0] == towerLength[1] ? NONE : both;
        }

        int longestRun() {
            int longest = 0;
            for (int i = 0; i < towerLength[0]; i++) {
                for (int j = 0; j < towerLength[1]; j++) {
                    longest = Math.max(longest, runAt(i, j));
                }
            }
            return longest;
        }

        private int runAt(int i, int j) {
            int most = Math.min(towerLength[0] - i, towerLength[1] - j);
            int run = 0;
            while (run < most && towers[i + run] == towers[MOST_TOWER + j + run]) {
                run++;
            }
            return run;
        }

        void copyFrom(Told other) {
            System.arraycopy(other.weight, 0, weight, 0, MOST_WORDS);
            System.arraycopy(other.heardAs, 0, heardAs, 0, MOST_WORDS);
            lines = other.lines;
            System.arraycopy(other.first, 0, first, 0, MOST_LINES);
            System.arraycopy(other.second, 0, second, 0, MOST_LINES);
            System.arraycopy(other.towerLength, 0, towerLength, 0, 2);
            System.arraycopy(other.towers, 0, towers, 0, 2 * MOST_TOWER);
        }
    }

    /** A TEXT as it was read: its CLAUSES, and its laws as code for a stack of values. */
    private static final class Text {
        static final int OVER = 0;
        static final int FOLLOWS = 1;
        static final int BEGINS = 2;
        static final int LAWS = 3;
        private static final int MOST_TOLD = 6;

        int clauses;
        private int toldSoFar;
        private final int[] whats = new int[MOST_CLAUSES];
        private final int[] numbers = new int[MOST_CLAUSES * MOST_TOLD];
        boolean asksPlace;
        int size;
        final int[] code = new int[MOST_BYTES];
        final int[] from = new int[LAWS];
        final int[] till = new int[LAWS];

        void clear() {
            clauses = 0;
            asksPlace = false;
            size = 0;
            Arrays.fill(from, 0);
            Arrays.fill(till, 0);
        }

        boolean hasLaw(int law) {
            return till[law] > from[law];
        }

        void startClause(int what) {
            if (clauses >= MOST_CLAUSES) {
                return;
            }
            whats[clauses] = what;
            toldSoFar = clauses * MOST_TOLD;
            clauses++;
            for (int i = toldSoFar; i < clauses * MOST_TOLD; i++) {
                numbers[i] = NONE;
            }
        }

        void tell(int number) {
            if (toldSoFar < clauses * MOST_TOLD) {
                numbers[toldSoFar] = number;
                toldSoFar++;
            }
        }

        int what(int clause) {
            return clause >= 0 && clause < clauses ? whats[clause] : NONE;
        }

        int told(int clause, int i) {
            return clause >= 0 && clause < clauses && within(i, 0, MOST_TOLD - 1)
                    ? numbers[clause * MOST_TOLD + i] : NONE;
        }

        void emit(int op) {
            if (size < MOST_BYTES) {
                code[size] = op;
                size++;
            }
        }
    }

    /** Bytes to come, and the TOKENS that they make. */
    private static final class Tape {
        // tokens: a symbol by its sign (35 .. 94), the others by these
        static final int UNKNOWN = 0;
        static final int THE_END = 1;
        static final int NUMBER = 2;
        static final int AT_MOST = 3;
        static final int AT_LEAST = 4;
        static final int KEYWORD = 100;
        static final int BELL = KEYWORD + 3;
        static final int WORD = KEYWORD + 4;
        static final int RING = KEYWORD + 5;
        static final int SPEAK = KEYWORD + 6;
        static final int WIND = KEYWORD + 7;
        static final int FROST = KEYWORD + 8;
        static final int HOUR = KEYWORD + 9;
        static final int SUNDAY = KEYWORD + 10;
        static final int PITCH = KEYWORD + 11;
        static final int MEN = KEYWORD + 12;
        static final int MEANS = KEYWORD + 13;
        static final int OR = KEYWORD + 14;
        static final int AND = KEYWORD + 15;
        static final int NOT = KEYWORD + 16;
        static final int LOUD = KEYWORD + 17;
        static final int STROKES = KEYWORD + 18;
        static final int KIND = KEYWORD + 19;
        static final int NEXT = KEYWORD + 20;
        static final int MEANING = KEYWORD + 21;
        static final int PLACE = KEYWORD + 22;
        static final int KEYWORDS_IN_ALL = 23;

        private static final int CELL = 8;
        /** Cells of eight signs each: those that start a CLAUSE first, laws ahead of all. */
        private static final String KEYWORDS = "over    follows begins  bell    word    ring    speak   wind    frost   hour    sunday  pitch   men     means   or      and     not     loud    strokes kind    next    meaning place   ";
        private static final String SYMBOLS = "<>=#+-*/^():;";

        private static final int BLANK = 0;
        private static final int DIGIT = 1;
        private static final int LETTER = 2;
        private static final int SYMBOL = 3;

        int length;
        private final byte[] bytes = new byte[MOST_BYTES];
        final int[] tokens = new int[MOST_BYTES + 1];
        final int[] starts = new int[MOST_BYTES + 1];
        final int[] numbers = new int[MOST_BYTES + 1];

        void append(int four) {
            for (int shift = 24; shift >= 0; shift -= 8) {
                if (length < MOST_BYTES) {
                    bytes[length] = (byte) (four >> shift);
                    length++;
                }
            }
        }

        /** The TOKENS of all bytes; behind the last one stands the end. */
        void scan() {
            int count = 0;
            int from = 0;
            while (from < length) {
                int sort = sortOf(bytes[from]);
                int till = from + 1;
                while (till < length && sort != SYMBOL && sortOf(bytes[till]) == sort) {
                    till++;
                }
                if (sort != BLANK) {
                    starts[count] = from;
                    tokens[count] = tokenOf(sort, from, till);
                    numbers[count] = sort == DIGIT ? numberOf(from, till) : 0;
                    if (tokens[count] == AT_MOST || tokens[count] == AT_LEAST) {
                        till++;
                    }
                    count++;
                }
                from = till;
            }
            starts[count] = length;
            tokens[count] = THE_END;
        }

        private static int sortOf(byte sign) {
            if (sign == 32 || sign == 10) {
                return BLANK;
            }
            if (sign >= '0' && sign <= '9') {
                return DIGIT;
            }
            boolean letter = sign >= 'a' && sign <= 'z' || sign >= 'A' && sign <= 'Z';
            return letter ? LETTER : SYMBOL;
        }

        private int tokenOf(int sort, int from, int till) {
            if (sort == DIGIT) {
                return NUMBER;
            }
            return sort == LETTER ? keywordOf(from, till - from) : symbolOf(from);
        }

        /** A NUMBER that is too great stays just that, however long it is. */
        private int numberOf(int from, int till) {
            int number = 0;
            for (int i = from; i < till; i++) {
                number = Math.min(LAST_HOUR + 1, number * 10 + bytes[i] - '0');
            }
            return number;
        }

        private int symbolOf(int at) {
            char sign = (char) (bytes[at] & 255);
            boolean withEqual = at + 1 < length && bytes[at + 1] == '=';
            if (withEqual && sign == '<') {
                return AT_MOST;
            }
            if (withEqual && sign == '>') {
                return AT_LEAST;
            }
            return SYMBOLS.indexOf(sign) >= 0 ? sign : UNKNOWN;
        }

        private int keywordOf(int from, int count) {
            if (count >= CELL) {
                return UNKNOWN;
            }
            for (int k = 0; k < KEYWORDS_IN_ALL; k++) {
                int same = 0;
                while (same < count && KEYWORDS.charAt(k * CELL + same) == bytes[from + same]) {
                    same++;
                }
                if (same == count && KEYWORDS.charAt(k * CELL + count) == ' ') {
                    return KEYWORD + k;
                }
            }
            return UNKNOWN;
        }
    }

    /**
     * Reads the tape to a TEXT. Laws are read with a row of operators that wait for what stands
     * on their right, so that nothing calls itself.
     */
    private static final class Reader {
        /** The - of one value, which has no TOKEN of its own. */
        static final int MINUS = 5;
        /** In a law's code a NUMBER stands on top of this. */
        static final int NUMBERS = 1000;
        static final int MOST_WAITING = 64;

        // NAMES by law: a bit for each keyword
        private static final int NAMES_OF_OVER = 1 << (Tape.LOUD - Tape.KEYWORD)
                | 1 << (Tape.PITCH - Tape.KEYWORD) | 1 << (Tape.MEN - Tape.KEYWORD)
                | 1 << (Tape.WIND - Tape.KEYWORD) | 1 << (Tape.FROST - Tape.KEYWORD)
                | 1 << (Tape.HOUR - Tape.KEYWORD) | 1 << (Tape.STROKES - Tape.KEYWORD)
                | 1 << (Tape.BELL - Tape.KEYWORD);
        private static final int NAMES_OF_BEGINS = 1 << (Tape.KIND - Tape.KEYWORD)
                | 1 << (Tape.MEANS - Tape.KEYWORD);
        private static final int NAMES_OF_FOLLOWS = NAMES_OF_BEGINS
                | 1 << (Tape.NEXT - Tape.KEYWORD) | 1 << (Tape.MEANING - Tape.KEYWORD)
                | 1 << (Tape.PLACE - Tape.KEYWORD);

        // how firmly operators hold: one that waits is done ahead of those that hold no firmer
        private static final int HOLDS_OR = 1;
        private static final int HOLDS_AND = 2;
        private static final int HOLDS_NOT = 3;
        private static final int HOLDS_COMPARED = 4;
        private static final int HOLDS_SUM = 5;
        private static final int HOLDS_PRODUCT = 6;
        private static final int HOLDS_POWER = 7;
        private static final int HOLDS_MINUS = 8;

        private static final int MOST_OPEN = 8;

        int fault = NONE;
        int place = NONE;
        private final Tape tape;
        private Text text;
        private int at;
        private int token;
        private final int[] pending = new int[MOST_WAITING];
        private int waiting;
        private int open;
        private int brackets;
        private boolean wantsValue;
        private boolean startsAsk;
        private boolean compared;

        Reader(Tape tape) {
            this.tape = tape;
        }

        /** Whether the tape is without a FAULT; in both cases it is empty then. */
        boolean reads(Text into) {
            text = into;
            text.clear();
            tape.scan();
            fault = 0;
            place = NONE;
            at = 0;
            token = tape.tokens[0];
            for (int i = 0; i <= MOST_CLAUSES && fault == 0 && token != Tape.THE_END; i++) {
                readClause();
            }
            tape.length = 0;
            return fault == 0;
        }

        private void advance() {
            if (at < MOST_BYTES) {
                at++;
            }
            token = tape.tokens[at];
        }

        private void fail(int number) {
            fault = number;
            place = tape.starts[at];
        }

        private void readClause() {
            int what = token;
            int law = what - Tape.KEYWORD;
            if (what < Tape.KEYWORD || what > Tape.SUNDAY) {
                fail(1);
            } else if (law < Text.LAWS && text.hasLaw(law)) {
                fail(4);
            } else if (text.clauses >= MOST_CLAUSES) {
                fail(6);
            } else {
                text.startClause(what);
                advance();
                if (law < Text.LAWS) {
                    readLaw(law);
                } else {
                    readNumbers(what);
                }
                pass(';');
            }
        }

        private void readNumbers(int what) {
            switch (what) {
                case Tape.BELL:
                    number(1, 9);
                    pass(Tape.PITCH);
                    number(0, 9);
                    pass(Tape.MEN);
                    number(1, 9);
                    break;
                case Tape.WORD:
                    number(0, 3);
                    pass(Tape.MEANS);
                    number(0, 99);
                    pass(':');
                    readBells();
                    break;
                case Tape.RING:
                    number(0, MOST_BELLS - 1);
                    break;
                case Tape.HOUR:
                    number(1, 60);
                    break;
                case Tape.SPEAK:
                case Tape.WIND:
                case Tape.FROST:
                    number(0, 9);
                    break;
                default:
                    break;
            }
        }

        private void readBells() {
            number(0, MOST_BELLS - 1);
            for (int i = 1; i <= MOST_STROKES && fault == 0 && token == Tape.NUMBER; i++) {
                if (i == MOST_STROKES && tape.numbers[at] < MOST_BELLS) {
                    fail(7);
                }
                number(0, MOST_BELLS - 1);
            }
        }

        private void number(int low, int high) {
            if (fault != 0) {
                return;
            }
            if (token != Tape.NUMBER) {
                fail(1);
            } else if (!within(tape.numbers[at], low, high)) {
                fail(2);
            } else {
                text.tell(tape.numbers[at]);
                advance();
            }
        }

        private void pass(int expected) {
            if (fault != 0) {
                return;
            }
            if (token != expected) {
                fail(1);
            } else {
                advance();
            }
        }

        /** Up to the ; of the law, which is left to the caller. */
        private void readLaw(int law) {
            text.from[law] = text.size;
            waiting = 0;
            open = 0;
            brackets = 0;
            wantsValue = true;
            startsAsk = true;
            compared = false;
            for (int i = 0; i <= MOST_BYTES; i++) {
                if (wantsValue) {
                    readValue(law);
                } else if (token == ';' && compared && brackets == 0) {
                    break;
                } else {
                    readOperator();
                }
                if (fault != 0) {
                    return;
                }
                advance();
            }
            settle(HOLDS_OR);
            text.till[law] = text.size;
        }

        private void readValue(int law) {
            switch (token) {
                case Tape.NUMBER:
                    if (tape.numbers[at] > LAST_HOUR) {
                        fail(2);
                    } else {
                        putValue(NUMBERS + tape.numbers[at]);
                    }
                    break;
                case '(':
                    brackets++;
                    startsAsk = false;
                    putOpen('(');
                    break;
                case '-':
                    startsAsk = false;
                    putOpen(MINUS);
                    break;
                case Tape.NOT:
                    if (startsAsk) {
                        putOpen(Tape.NOT);
                    } else {
                        fail(1);
                    }
                    break;
                default:
                    readName(law);
                    break;
            }
        }

        private void readName(int law) {
            int bit = token >= Tape.KEYWORD ? 1 << (token - Tape.KEYWORD) : 0;
            if ((bit & (NAMES_OF_OVER | NAMES_OF_FOLLOWS)) == 0) {
                fail(1);
            } else if ((bit & namesOf(law)) == 0) {
                fail(5);
            } else {
                text.asksPlace |= token == Tape.PLACE;
                putValue(token);
            }
        }

        private static int namesOf(int law) {
            switch (law) {
                case Text.OVER:
                    return NAMES_OF_OVER;
                case Text.FOLLOWS:
                    return NAMES_OF_FOLLOWS;
                default:
                    return NAMES_OF_BEGINS;
            }
        }

        private void readOperator() {
            int holds = holdOf(token);
            boolean joinsAsks = holds == HOLDS_OR || holds == HOLDS_AND;
            boolean ofAsk = joinsAsks || holds == HOLDS_COMPARED;
            if (token == ')' && brackets > 0) {
                settle(HOLDS_OR);
                brackets--;
                open--;
                waiting = Math.max(0, waiting - 1);
            } else if (holds == 0 || holds == HOLDS_NOT) {
                fail(1);
            } else if (ofAsk && (brackets > 0 || joinsAsks != compared)) {
                fail(1);
            } else {
                compared = ofAsk ? !joinsAsks : compared;
                startsAsk = joinsAsks;
                wantsValue = true;
                if (holds == HOLDS_POWER) {
                    // powers come from the right: another ^ that waits is left waiting
                    settle(HOLDS_MINUS);
                    putOpen(token);
                } else {
                    settle(holds);
                    putWaiting(token);
                }
            }
        }

        private void putValue(int op) {
            text.emit(op);
            wantsValue = false;
        }

        private void putOpen(int op) {
            if (open >= MOST_OPEN) {
                fail(3);
            } else {
                open++;
                putWaiting(op);
            }
        }

        private void putWaiting(int op) {
            if (waiting < MOST_WAITING) {
                pending[waiting] = op;
                waiting++;
            }
        }

        /** Those that wait are done, down to one that holds less; a ( ends it always. */
        private void settle(int least) {
            while (waiting > 0 && holdOf(pending[waiting - 1]) >= least) {
                waiting--;
                int op = pending[waiting];
                if (op == Tape.NOT || op == MINUS || op == '^') {
                    open--;
                }
                text.emit(op);
            }
        }

        private static int holdOf(int op) {
            switch (op) {
                case Tape.OR:
                    return HOLDS_OR;
                case Tape.AND:
                    return HOLDS_AND;
                case Tape.NOT:
                    return HOLDS_NOT;
                case '<':
                case '>':
                case '=':
                case '#':
                case Tape.AT_MOST:
                case Tape.AT_LEAST:
                    return HOLDS_COMPARED;
                case '+':
                case '-':
                    return HOLDS_SUM;
                case '*':
                case '/':
                    return HOLDS_PRODUCT;
                case '^':
                    return HOLDS_POWER;
                case MINUS:
                    return HOLDS_MINUS;
                default:
                    return 0;
            }
        }
    }

    /** What the laws of THE TEXT, or of another one, say. */
    private static final class Judge {
        private static final int RIGHT = 1;
        private static final int WRONG = 2;

        private final World world;
        private final Text[] texts;
        private final int[] names = new int[Tape.KEYWORDS_IN_ALL];
        private final int[] values = new int[Reader.MOST_WAITING];
        /** What was found of THE TEXT's grammar, by place, the WORD ahead and the WORD. */
        private final int[] found = new int[MOST_RUNG * MOST_WORDS * MOST_WORDS];

        Judge(World world, Text[] texts) {
            this.world = world;
            this.texts = texts;
        }

        /** Needed when THE TEXT or WORDS may have become others. */
        void forget() {
            Arrays.fill(found, 0);
        }

        private Text ruling() {
            return world.hasText(world.ruling) ? texts[world.ruling] : null;
        }

        boolean hasGrammar() {
            Text text = ruling();
            return text != null && (text.hasLaw(Text.FOLLOWS) || text.hasLaw(Text.BEGINS));
        }

        boolean getsOver(int bell, int ahead, int wind) {
            Lexicon lexicon = world.lexicon;
            if (!lexicon.hasBell(bell)) {
                return false;
            }
            Text text = ruling();
            if (text == null || !text.hasLaw(Text.OVER)) {
                return lexicon.loud[bell] > wind - world.now.frost;
            }
            name(Tape.LOUD, lexicon.loud[bell]);
            name(Tape.PITCH, lexicon.pitch[bell]);
            name(Tape.MEN, lexicon.men[bell]);
            name(Tape.WIND, wind);
            name(Tape.FROST, world.now.frost);
            name(Tape.HOUR, world.now.hour);
            name(Tape.STROKES, ahead);
            name(Tape.BELL, bell);
            return says(text, Text.OVER);
        }

        /** By THE TEXT: begins for the first WORD (ahead NONE, place 0), follows for others. */
        boolean mayStand(int ahead, int word, int place) {
            Text text = ruling();
            int law = ahead == NONE ? Text.BEGINS : Text.FOLLOWS;
            if (text == null || !text.hasLaw(law)) {
                return true;
            }
            int first = ahead == NONE ? word : ahead;
            // a law that doesn't ask for the place need not be asked again at each
            int asked = text.asksPlace ? place : Math.min(place, 1);
            int at = (asked * MOST_WORDS + first) * MOST_WORDS + word;
            if (at < 0 || at >= found.length) {
                return false;
            }
            if (found[at] == 0) {
                namePair(first, word, place);
                found[at] = says(text, law) ? RIGHT : WRONG;
            }
            return found[at] == RIGHT;
        }

        boolean follows(Text text, int ahead, int word, int place) {
            if (!text.hasLaw(Text.FOLLOWS)) {
                return true;
            }
            namePair(ahead, word, place);
            return says(text, Text.FOLLOWS);
        }

        private void namePair(int ahead, int word, int place) {
            Lexicon lexicon = world.lexicon;
            name(Tape.KIND, lexicon.kind[ahead]);
            name(Tape.MEANS, lexicon.means[ahead]);
            name(Tape.NEXT, lexicon.kind[word]);
            name(Tape.MEANING, lexicon.means[word]);
            name(Tape.PLACE, place);
        }

        private void name(int keyword, int value) {
            names[keyword - Tape.KEYWORD] = value;
        }

        private boolean says(Text text, int law) {
            int top = 0;
            for (int i = text.from[law]; i < text.till[law] && top < values.length; i++) {
                int op = text.code[i];
                if (isJoint(op)) {
                    if (top > 1) {
                        top--;
                        values[top - 1] = op == '^' ? power(values[top - 1], values[top])
                                : held(joined(op, values[top - 1], values[top]));
                    }
                } else if (op == Tape.NOT || op == Reader.MINUS) {
                    if (top > 0) {
                        values[top - 1] = (op == Tape.NOT ? 1 : 0) - values[top - 1];
                    }
                } else {
                    values[top] = op >= Reader.NUMBERS ? op - Reader.NUMBERS
                            : names[op - Tape.KEYWORD];
                    top++;
                }
            }
            return values[0] != 0;
        }

        private static boolean isJoint(int op) {
            return op == Tape.AND || op == Tape.OR || op < Tape.KEYWORD && op != Reader.MINUS;
        }

        private static long joined(int op, long x, long y) {
            switch (op) {
                case Tape.OR:
                    return x | y;
                case Tape.AND:
                    return x & y;
                case '<':
                    return x < y ? 1 : 0;
                case Tape.AT_MOST:
                    return x <= y ? 1 : 0;
                case '>':
                    return x > y ? 1 : 0;
                case Tape.AT_LEAST:
                    return x >= y ? 1 : 0;
                case '=':
                    return x == y ? 1 : 0;
                case '#':
                    return x != y ? 1 : 0;
                case '*':
                    return x * y;
                case '/':
                    return y == 0 ? 0 : x / y;
                case '+':
                    return x + y;
                default:
                    return x - y;
            }
        }

        /** Behind 20 times it is at the limit, or never will be: only its sign changes. */
        private static int power(int x, int y) {
            if (y < 0) {
                return 0;
            }
            int times = y > 99 ? 99 : y;
            if (times > 22) {
                times = 22 - times % 2;
            }
            int product = 1;
            for (int i = 0; i < times; i++) {
                product = held((long) product * x);
            }
            return product;
        }

        private static int held(long sum) {
            if (sum > LIMIT) {
                return LIMIT;
            }
            return sum < -LIMIT ? -LIMIT : (int) sum;
        }
    }

    /** What was HEARD, and what it may have been. */
    private static final class Ear {
        private static final int PLACES = MOST_RUNG + 1;

        private final World world;
        private final Judge judge;
        int count;
        final int[] row = new int[MOST_RUNG];
        /** By place: the WORDS (bits) that stand there. */
        private final int[] fits = new int[PLACES];
        /** By place: the numbers of WORDS (bits) that may end there. */
        private final int[] reached = new int[PLACES];
        /** By place: ways to read what is behind it, sense aside. */
        private final int[] anyWays = new int[PLACES];
        /** By place, number of WORDS so far, latest WORD: ways to read what is behind it. */
        private final int[] senseWays = new int[PLACES * PLACES * MOST_WORDS];
        private final int[] left = new int[MOST_STROKES + 1];

        Ear(World world, Judge judge) {
            this.world = world;
            this.judge = judge;
        }

        void listen() {
            Season now = world.now;
            count = 0;
            for (int i = 0; i < now.strokes; i++) {
                if (now.row[i] >= WAS_HEARD) {
                    row[count] = now.row[i] - WAS_HEARD;
                    count++;
                }
            }
        }

        int waysToRead(boolean sense) {
            listen();
            layWords();
            if (!sense || count == 0 || !judge.hasGrammar()) {
                return anyWays[0];
            }
            Lexicon lexicon = world.lexicon;
            for (int end = count; end > 0; end--) {
                for (int w = 0; w < lexicon.words && anyWays[end] > 0; w++) {
                    int from = end - lexicon.length[w];
                    int ahead = from >= 0 && fitsAt(from, w) ? reached[from] : 0;
                    for (int k = 0; k < end; k++) {
                        if ((ahead >> k & 1) != 0) {
                            senseWays[cell(end, k + 1, w)] = waysBehind(end, k + 1, w);
                        }
                    }
                }
            }
            return waysBehind(0, 0, NONE);
        }

        /** Of places that can't be read on from, senseWays holds what an earlier call left. */
        private int waysBehind(int end, int words, int latest) {
            if (end == count) {
                return 1;
            }
            int ways = 0;
            for (int w = 0; w < world.lexicon.words; w++) {
                int next = end + world.lexicon.length[w];
                if (fitsAt(end, w) && anyWays[next] > 0) {
                    int rest = senseWays[cell(next, words + 1, w)];
                    if (rest > 0 && judge.mayStand(latest, w, words)) {
                        ways = Math.min(LIMIT, ways + rest);
                    }
                }
            }
            return ways;
        }

        private static int cell(int place, int words, int latest) {
            return (place * PLACES + words) * MOST_WORDS + latest;
        }

        private boolean fitsAt(int place, int word) {
            return (fits[place] >> word & 1) != 0;
        }

        private void layWords() {
            Lexicon lexicon = world.lexicon;
            Arrays.fill(reached, 0);
            reached[0] = 1;
            for (int place = 0; place <= count; place++) {
                fits[place] = 0;
                for (int w = 0; w < lexicon.words; w++) {
                    if (stands(w, place)) {
                        fits[place] |= 1 << w;
                        reached[place + lexicon.length[w]] |= reached[place] << 1;
                    }
                }
            }
            anyWays[count] = 1;
            for (int place = count - 1; place >= 0; place--) {
                anyWays[place] = 0;
                for (int w = 0; w < lexicon.words; w++) {
                    if (fitsAt(place, w)) {
                        int rest = anyWays[place + lexicon.length[w]];
                        anyWays[place] = Math.min(LIMIT, anyWays[place] + rest);
                    }
                }
            }
        }

        private boolean stands(int word, int place) {
            int size = world.lexicon.length[word];
            if (place + size > count) {
                return false;
            }
            for (int i = 0; i < size; i++) {
                if (row[place + i] != world.lexicon.strokeOf(word, i)) {
                    return false;
                }
            }
            return true;
        }

        int firstReading(boolean sense, int i) {
            if (i < NONE || waysToRead(sense) == 0) {
                return OTHERS;
            }
            boolean asks = sense && judge.hasGrammar();
            int place = 0;
            int latest = NONE;
            int words;
            for (words = 0; words < MOST_RUNG && place < count; words++) {
                latest = lowestAt(asks, place, words, latest);
                if (latest == NONE) {
                    return OTHERS;
                }
                if (words == i) {
                    return latest;
                }
                place += world.lexicon.length[latest];
            }
            return i == NONE ? words : OTHERS;
        }

        /** The lowest WORD from which all that is behind can be read. */
        private int lowestAt(boolean asks, int place, int words, int latest) {
            for (int w = 0; w < world.lexicon.words; w++) {
                int next = place + world.lexicon.length[w];
                boolean can = fitsAt(place, w) && anyWays[next] > 0;
                if (can && asks) {
                    can = senseWays[cell(next, words + 1, w)] > 0
                            && judge.mayStand(latest, w, words);
                }
                if (can) {
                    return w;
                }
            }
            return NONE;
        }

        /** That just HEARD is left of a WORD, by 10000, each STROKE being lost by p of 10. */
        long likelihood(int word, int p) {
            int size = world.lexicon.length[word];
            if (count > size) {
                return 0;
            }
            long product = waysLeft(word);
            for (int i = 0; i < MOST_STROKES; i++) {
                if (i < count) {
                    product *= 10 - p;
                } else {
                    product *= i < size ? p : 10;
                }
            }
            return product;
        }

        /** In how many ways HEARD, which is no longer than the WORD, is left of it. */
        private int waysLeft(int word) {
            Arrays.fill(left, 0);
            left[0] = 1;
            for (int i = 0; i < world.lexicon.length[word]; i++) {
                int stroke = world.lexicon.strokeOf(word, i);
                for (int j = count; j > 0; j--) {
                    if (row[j - 1] == stroke) {
                        left[j] += left[j - 1];
                    }
                }
            }
            return left[count];
        }
    }

    /** CHANGES: rows of bells, three bits for each, the last one lowest. */
    private static final class Ringers {
        private static final int MOST_ROWS = 120;

        private final int[] queue = new int[MOST_ROWS];
        private final int[] distance = new int[MOST_ROWS];

        int fewest(int n, int from, int to, boolean row) {
            if (!within(n, 2, 5)) {
                return NONE;
            }
            int here = packed(n, from);
            int there = packed(n, to);
            if (here == NONE || there == NONE) {
                return NONE;
            }
            measure(n, there, rankOf(n, here));
            int far = distance[rankOf(n, here)];
            if (!row) {
                return far;
            }
            return far == 0 ? from : lowestBehind(n, here, far - 1);
        }

        /** How far rows are from one, till another one (by its rank) is come to. */
        private void measure(int n, int origin, int sought) {
            Arrays.fill(distance, NONE);
            distance[rankOf(n, origin)] = 0;
            queue[0] = origin;
            int queued = 1;
            for (int i = 0; i < queued && distance[sought] == NONE; i++) {
                int far = distance[rankOf(n, queue[i])];
                for (int pairs = 1; pairs < 1 << (n - 1); pairs++) {
                    int next = changed(queue[i], pairs);
                    int rank = rankOf(n, next);
                    if (distance[rank] == NONE && queued < MOST_ROWS) {
                        distance[rank] = far + 1;
                        queue[queued] = next;
                        queued++;
                    }
                }
            }
        }

        private int lowestBehind(int n, int here, int far) {
            int lowest = NONE;
            for (int pairs = 1; pairs < 1 << (n - 1); pairs++) {
                int next = changed(here, pairs);
                if (distance[rankOf(n, next)] == far) {
                    int digits = unpacked(n, next);
                    if (lowest == NONE || digits < lowest) {
                        lowest = digits;
                    }
                }
            }
            return lowest;
        }

        /** The row itself, if a bell would be in two of the pairs (bits, the last one lowest). */
        private static int changed(int row, int pairs) {
            if ((pairs & pairs << 1) != 0) {
                return row;
            }
            int next = row;
            for (int i = 0; i < 4; i++) {
                if ((pairs >> i & 1) != 0) {
                    int unlike = (row >> 3 * i ^ row >> 3 * i + 3) & 7;
                    next ^= unlike << 3 * i | unlike << 3 * i + 3;
                }
            }
            return next;
        }

        private static int packed(int n, int digits) {
            if (digits < 0) {
                return NONE;
            }
            int rest = digits;
            int seen = 0;
            int row = 0;
            for (int i = 0; i < n; i++) {
                int bell = rest % 10;
                rest /= 10;
                row |= bell << 3 * i;
                seen |= 1 << bell;
            }
            return rest == 0 && seen == (1 << n) - 1 ? row : NONE;
        }

        private static int unpacked(int n, int row) {
            int digits = 0;
            for (int i = n - 1; i >= 0; i--) {
                digits = digits * 10 + (row >> 3 * i & 7);
            }
            return digits;
        }

        /** A number of its own for each row of n bells, below 120. */
        private static int rankOf(int n, int row) {
            int unused = (1 << n) - 1;
            int rank = 0;
            for (int i = n - 1; i >= 0; i--) {
                int bell = row >> 3 * i & 7;
                rank = rank * (i + 1) + Integer.bitCount(unused & ((1 << bell) - 1));
                unused &= ~(1 << bell);
            }
            return rank;
        }
    }
}
