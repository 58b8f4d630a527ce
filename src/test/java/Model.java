import java.math.BigInteger;
import java.util.ArrayDeque;
import java.util.ArrayList;
import java.util.Arrays;
import java.util.Collections;
import java.util.HashMap;
import java.util.LinkedHashSet;
import java.util.List;
import java.util.Map;
import java.util.Set;

/**
 * The document once more, written for plainness alone and by other means than the program
 * (trees, maps, copies, big numbers), so that random runs can be held against it.
 */
final class Model {
    static final int NONE = -1;
    private static final BigInteger MILLION = BigInteger.valueOf(1000000);

    /** WIND, FROST, HOUR, X, RUNG, BOOK. */
    private static final class Season {
        int wind = 2;
        int frost = 0;
        int hour = 0;
        int x = 101;
        List<int[]> rung = new ArrayList<>();
        List<int[]> book = new ArrayList<>();

        Season copy() {
            Season c = new Season();
            c.wind = wind;
            c.frost = frost;
            c.hour = hour;
            c.x = x;
            c.rung = new ArrayList<>(rung);
            c.book = new ArrayList<>(book);
            return c;
        }
    }

    private static final class All {
        List<int[]> bells = new ArrayList<>();
        List<int[]> words = new ArrayList<>();
        List<int[]> meanings = new ArrayList<>();
        Map<Integer, Integer> weights = new HashMap<>();
        Map<Integer, Integer> heardAs = new HashMap<>();
        List<int[]> lines = new ArrayList<>();
        List<List<Integer>> towers = List.of(new ArrayList<>(), new ArrayList<>());
        List<Script> texts = new ArrayList<>();
        List<Season> steps = new ArrayList<>();
        int hands = 9;
        int ruling = NONE;
        Season now = new Season();

        All copy() {
            All c = new All();
            c.bells = new ArrayList<>(bells);
            c.words = new ArrayList<>(words);
            c.meanings = new ArrayList<>(meanings);
            c.weights = new HashMap<>(weights);
            c.heardAs = new HashMap<>(heardAs);
            c.lines = new ArrayList<>(lines);
            c.towers = List.of(new ArrayList<>(towers.get(0)), new ArrayList<>(towers.get(1)));
            c.texts = new ArrayList<>(texts);
            for (Season s : steps) {
                c.steps.add(s.copy());
            }
            c.hands = hands;
            c.ruling = ruling;
            c.now = now.copy();
            return c;
        }
    }

    private All all = new All();
    private All image = new All();
    private final List<Integer> tape = new ArrayList<>();
    private int fault = NONE;
    private int place = NONE;

    // ---- texts: a tree of what is asked ----

    private interface Sum {
        BigInteger of(Map<String, Integer> names);
    }

    private interface Ask {
        boolean of(Map<String, Integer> names);
    }

    private static final class Script {
        Map<String, Ask> laws = new HashMap<>();
        List<List<Object>> clauses = new ArrayList<>();
    }

    private static final class Fault extends Exception {
        private static final long serialVersionUID = 1L;
        final int number;
        final int at;

        Fault(int number, int at) {
            this.number = number;
            this.at = at;
        }
    }

    private static final Map<String, Set<String>> NAMES = Map.of(
            "over", Set.of("loud", "pitch", "men", "wind", "frost", "hour", "strokes", "bell"),
            "follows", Set.of("kind", "means", "next", "meaning", "place"),
            "begins", Set.of("kind", "means"));

    private static final class Parser {
        final List<String> tokens = new ArrayList<>();
        final List<Integer> places = new ArrayList<>();
        final Script script = new Script();
        int at = 0;
        int depth = 0;
        String law = "";

        Parser(String s) {
            int i = 0;
            while (i < s.length()) {
                char c = s.charAt(i);
                if (c == ' ' || c == '\n') {
                    i++;
                    continue;
                }
                int j = i + 1;
                if (letter(c)) {
                    while (j < s.length() && letter(s.charAt(j))) {
                        j++;
                    }
                } else if (digit(c)) {
                    while (j < s.length() && digit(s.charAt(j))) {
                        j++;
                    }
                } else if (s.startsWith("<=", i) || s.startsWith(">=", i)) {
                    j = i + 2;
                }
                tokens.add(s.substring(i, j));
                places.add(i);
                i = j;
            }
            tokens.add("");
            places.add(s.length());
        }

        static boolean letter(char c) {
            return c >= 'a' && c <= 'z' || c >= 'A' && c <= 'Z';
        }

        static boolean digit(char c) {
            return c >= '0' && c <= '9';
        }

        String token() {
            return tokens.get(at);
        }

        boolean isNumber() {
            return !token().isEmpty() && digit(token().charAt(0));
        }

        Fault fault(int n) {
            return new Fault(n, places.get(at));
        }

        void pass(String t) throws Fault {
            if (!token().equals(t)) {
                throw fault(1);
            }
            at++;
        }

        int number(int low, int high) throws Fault {
            if (!isNumber()) {
                throw fault(1);
            }
            BigInteger v = new BigInteger(token());
            if (v.compareTo(BigInteger.valueOf(low)) < 0
                    || v.compareTo(BigInteger.valueOf(high)) > 0) {
                throw fault(2);
            }
            at++;
            return v.intValue();
        }

        Script read() throws Fault {
            while (!token().isEmpty()) {
                clause();
            }
            return script;
        }

        void clause() throws Fault {
            String t = token();
            List<Object> c = new ArrayList<>();
            c.add(t);
            if (!List.of("over", "follows", "begins", "bell", "word", "ring", "speak", "wind",
                    "frost", "hour", "sunday").contains(t)) {
                throw fault(1);
            }
            if (script.laws.containsKey(t)) {
                throw fault(4);
            }
            if (script.clauses.size() == 24) {
                throw fault(6);
            }
            at++;
            if (NAMES.containsKey(t)) {
                law = t;
                script.laws.put(t, either());
            } else if (t.equals("bell")) {
                c.add(number(1, 9));
                pass("pitch");
                c.add(number(0, 9));
                pass("men");
                c.add(number(1, 9));
            } else if (t.equals("word")) {
                c.add(number(0, 3));
                pass("means");
                c.add(number(0, 99));
                pass(":");
                c.add(number(0, 5));
                while (isNumber()) {
                    int was = at;
                    int b = number(0, 5);
                    if (c.size() == 7) {
                        at = was;
                        throw fault(7);
                    }
                    c.add(b);
                }
            } else if (t.equals("ring")) {
                c.add(number(0, 5));
            } else if (t.equals("hour")) {
                c.add(number(1, 60));
            } else if (!t.equals("sunday")) {
                c.add(number(0, 9));
            }
            pass(";");
            script.clauses.add(c);
        }

        Ask either() throws Fault {
            Ask x = both();
            while (token().equals("or")) {
                at++;
                Ask l = x;
                Ask r = both();
                x = n -> l.of(n) | r.of(n);
            }
            return x;
        }

        Ask both() throws Fault {
            Ask x = ask();
            while (token().equals("and")) {
                at++;
                Ask l = x;
                Ask r = ask();
                x = n -> l.of(n) & r.of(n);
            }
            return x;
        }

        void open() throws Fault {
            depth++;
            if (depth == 9) {
                throw fault(3);
            }
            at++;
        }

        Ask ask() throws Fault {
            if (token().equals("not")) {
                open();
                Ask x = ask();
                depth--;
                return n -> !x.of(n);
            }
            Sum l = sum();
            String rel = token();
            if (!List.of("<", "<=", ">", ">=", "=", "#").contains(rel)) {
                throw fault(1);
            }
            at++;
            Sum r = sum();
            return n -> {
                int c = l.of(n).compareTo(r.of(n));
                switch (rel) {
                    case "<": return c < 0;
                    case "<=": return c <= 0;
                    case ">": return c > 0;
                    case ">=": return c >= 0;
                    case "=": return c == 0;
                    default: return c != 0;
                }
            };
        }

        Sum sum() throws Fault {
            Sum x = product();
            while (token().equals("+") || token().equals("-")) {
                boolean plus = token().equals("+");
                at++;
                Sum l = x;
                Sum r = product();
                x = n -> hold(plus ? l.of(n).add(r.of(n)) : l.of(n).subtract(r.of(n)));
            }
            return x;
        }

        Sum product() throws Fault {
            Sum x = power();
            while (token().equals("*") || token().equals("/")) {
                boolean times = token().equals("*");
                at++;
                Sum l = x;
                Sum r = power();
                x = n -> {
                    BigInteger a = l.of(n);
                    BigInteger b = r.of(n);
                    if (times) {
                        return hold(a.multiply(b));
                    }
                    return b.signum() == 0 ? BigInteger.ZERO : hold(a.divide(b));
                };
            }
            return x;
        }

        Sum power() throws Fault {
            Sum x = one();
            if (!token().equals("^")) {
                return x;
            }
            open();
            Sum y = power();
            depth--;
            return n -> {
                BigInteger a = x.of(n);
                int times = y.of(n).intValue();
                if (times < 0) {
                    return BigInteger.ZERO;
                }
                BigInteger p = BigInteger.ONE;
                for (int i = 0; i < times && i < 99; i++) {
                    p = hold(p.multiply(a));
                }
                return p;
            };
        }

        Sum one() throws Fault {
            if (isNumber()) {
                BigInteger v = BigInteger.valueOf(number(0, 9999));
                return n -> v;
            }
            if (token().equals("(")) {
                open();
                Sum x = sum();
                pass(")");
                depth--;
                return x;
            }
            if (token().equals("-")) {
                open();
                Sum x = one();
                depth--;
                return n -> x.of(n).negate();
            }
            String name = token();
            boolean any = false;
            for (Set<String> s : NAMES.values()) {
                any |= s.contains(name);
            }
            if (!any) {
                throw fault(1);
            }
            if (!NAMES.get(law).contains(name)) {
                throw fault(5);
            }
            at++;
            return n -> BigInteger.valueOf(n.get(name));
        }

        static BigInteger hold(BigInteger v) {
            return v.min(MILLION).max(MILLION.negate());
        }
    }

    // ---- laws ----

    private Ask law(String name) {
        return all.ruling == NONE ? null : all.texts.get(all.ruling).laws.get(name);
    }

    private boolean over(int bell, int ahead, int wind) {
        int[] b = all.bells.get(bell);
        Ask law = law("over");
        if (law == null) {
            return b[0] > wind - all.now.frost;
        }
        return law.of(Map.of("loud", b[0], "pitch", b[1], "men", b[2], "wind", wind,
                "frost", all.now.frost, "hour", all.now.hour, "strokes", ahead, "bell", bell));
    }

    private boolean overNow(int bell) {
        return over(bell, all.now.rung.size(), all.now.wind);
    }

    private boolean follows(Ask law, int one, int other, int place) {
        return law == null || law.of(Map.of("kind", all.meanings.get(one)[0],
                "means", all.meanings.get(one)[1], "next", all.meanings.get(other)[0],
                "meaning", all.meanings.get(other)[1], "place", place));
    }

    private boolean begins(int word) {
        Ask law = law("begins");
        return law == null || law.of(Map.of("kind", all.meanings.get(word)[0],
                "means", all.meanings.get(word)[1]));
    }

    private boolean isBell(int b) {
        return b >= 0 && b < all.bells.size();
    }

    private boolean isWord(int w) {
        return w >= 0 && w < all.words.size();
    }

    // ---- the face ----

    int bell(int loud, int pitch, int men) {
        if (loud < 1 || loud > 9 || pitch < 0 || pitch > 9 || men < 1 || men > 9
                || all.bells.size() == 6) {
            return NONE;
        }
        all.bells.add(new int[] {loud, pitch, men});
        return all.bells.size() - 1;
    }

    int word(int a, int b, int c, int d, int kind, int means) {
        List<Integer> row = new ArrayList<>(List.of(a, b, c, d));
        while (!row.isEmpty() && row.get(row.size() - 1) == NONE) {
            row.remove(row.size() - 1);
        }
        if (row.isEmpty() || kind < 0 || kind > 3 || means < 0 || means > 99
                || all.words.size() == 10) {
            return NONE;
        }
        for (int s : row) {
            if (!isBell(s)) {
                return NONE;
            }
        }
        int n = all.words.size();
        all.words.add(row.stream().mapToInt(x -> x).toArray());
        all.meanings.add(new int[] {kind, means});
        all.weights.put(n, 1);
        all.heardAs.put(n, n);
        return n;
    }

    boolean hands(int men) {
        if (men < 0 || men > 99) {
            return false;
        }
        all.hands = men;
        return true;
    }

    int feed(int a, int b, int c, int d, int e) {
        if (tape.size() > 280) {
            return NONE;
        }
        for (int v : new int[] {a, b, c, d, e}) {
            tape.add(v >>> 24);
            tape.add(v >>> 16 & 255);
            tape.add(v >>> 8 & 255);
            tape.add(v & 255);
        }
        return tape.size();
    }

    int end(int n) {
        if (n < 0 || n > tape.size()) {
            return NONE;
        }
        while (tape.size() > n) {
            tape.remove(tape.size() - 1);
        }
        return n;
    }

    int text() {
        if (all.texts.size() == 4) {
            return NONE;
        }
        StringBuilder s = new StringBuilder();
        for (int b : tape) {
            s.append((char) b);
        }
        tape.clear();
        try {
            all.texts.add(new Parser(s.toString()).read());
            fault = 0;
            place = NONE;
            return all.texts.size() - 1;
        } catch (Fault f) {
            fault = f.number;
            place = f.at;
            return NONE;
        }
    }

    int fault(int what) {
        return what == 0 ? fault : what == 1 ? place : NONE;
    }

    boolean by(int text) {
        if (text < NONE || text >= all.texts.size()) {
            return false;
        }
        all.ruling = text;
        return true;
    }

    private void step() {
        all.steps.add(all.now.copy());
        if (all.steps.size() > 30) {
            all.steps.remove(0);
        }
    }

    private boolean canRing(int bell) {
        return isBell(bell) && all.bells.get(bell)[2] <= all.hands && all.now.rung.size() < 24;
    }

    private int doRing(int bell) {
        boolean h = overNow(bell);
        all.now.rung.add(new int[] {bell, h ? 1 : 0});
        return h ? 1 : 0;
    }

    int ring(int bell) {
        if (!canRing(bell)) {
            return NONE;
        }
        step();
        return doRing(bell);
    }

    private boolean canSpeak(int word) {
        if (!isWord(word) || all.now.rung.size() + all.words.get(word).length > 24) {
            return false;
        }
        for (int b : all.words.get(word)) {
            if (all.bells.get(b)[2] > all.hands) {
                return false;
            }
        }
        return true;
    }

    private int doSpeak(int word) {
        int h = 0;
        for (int b : all.words.get(word)) {
            h += doRing(b);
        }
        return h;
    }

    int speak(int word) {
        if (!canSpeak(word)) {
            return NONE;
        }
        step();
        return doSpeak(word);
    }

    boolean set(boolean frost, int to) {
        if (to < 0 || to > 9 || to == (frost ? all.now.frost : all.now.wind)) {
            return false;
        }
        step();
        if (frost) {
            all.now.frost = to;
        } else {
            all.now.wind = to;
        }
        return true;
    }

    private int draw(int m) {
        int x = all.now.x;
        all.now.x = (x * 313 + 199) % 30341;
        return x % m;
    }

    private void doHour() {
        all.now.hour++;
        all.now.wind = draw(10);
        int f = all.now.frost + draw(3) - 1;
        all.now.frost = f < 0 ? 0 : f > 9 ? 9 : f;
    }

    int hour(int n) {
        if (n < 1 || n > 60 || all.now.hour + n > 9999) {
            return NONE;
        }
        for (int i = 0; i < n; i++) {
            step();
            doHour();
        }
        return all.now.hour;
    }

    private int doSunday() {
        int r = readings(true);
        all.now.book.add(new int[] {all.now.hour, all.now.rung.size(), heardRow().size(), r});
        if (all.now.book.size() > 20) {
            all.now.book.remove(0);
        }
        all.now.rung.clear();
        return r;
    }

    int sunday() {
        step();
        return doSunday();
    }

    int played(int text) {
        if (text < 0 || text >= all.texts.size()) {
            return -2;
        }
        List<List<Object>> clauses = all.texts.get(text).clauses;
        for (int i = 0; i < clauses.size(); i++) {
            if (!play(clauses.get(i))) {
                return i;
            }
        }
        return NONE;
    }

    private boolean play(List<Object> c) {
        int[] n = new int[] {NONE, NONE, NONE, NONE, NONE, NONE};
        for (int i = 1; i < c.size(); i++) {
            n[i - 1] = (Integer) c.get(i);
        }
        switch ((String) c.get(0)) {
            case "bell": return bell(n[0], n[1], n[2]) != NONE;
            case "word": return word(n[2], n[3], n[4], n[5], n[0], n[1]) != NONE;
            case "ring": return ring(n[0]) != NONE;
            case "speak": return speak(n[0]) != NONE;
            case "wind": return set(false, n[0]);
            case "frost": return set(true, n[0]);
            case "hour":
                for (int i = 0; i < n[0]; i++) {
                    if (hour(1) == NONE) {
                        return false;
                    }
                }
                return true;
            case "sunday": sunday(); return true;
            default: return true;
        }
    }

    int centuries(int seed, int n) {
        if (seed < 0 || seed > 9999 || n < 1 || n > 40 || all.bells.isEmpty()
                || all.words.isEmpty()) {
            return NONE;
        }
        step();
        all.now.x = seed * 2 + 101;
        for (int i = 0; i < n; i++) {
            int x = draw(1 << 20);
            if (x % 5 == 0) {
                if (canRing(x % all.bells.size())) {
                    doRing(x % all.bells.size());
                }
            } else if (x % 5 == 1) {
                if (canSpeak(x % all.words.size())) {
                    doSpeak(x % all.words.size());
                }
            } else if (x % 5 == 2) {
                doSunday();
            } else if (all.now.hour < 9999) {
                doHour();
            }
        }
        return all.now.hour;
    }

    int undo() {
        if (all.steps.isEmpty()) {
            return NONE;
        }
        all.now = all.steps.remove(all.steps.size() - 1);
        return all.steps.size();
    }

    int ofBell(int bell, int what) {
        if (!isBell(bell) || what < 0 || what > 3) {
            return NONE;
        }
        return what < 3 ? all.bells.get(bell)[what] : overNow(bell) ? 1 : 0;
    }

    int ofWord(int word, int what) {
        if (!isWord(word) || what < 0 || what > 7) {
            return -2;
        }
        int[] row = all.words.get(word);
        if (what < 2) {
            return all.meanings.get(word)[what];
        }
        if (what == 2) {
            return row.length;
        }
        if (what == 3) {
            return Arrays.stream(row).map(b -> all.bells.get(b)[2]).max().getAsInt();
        }
        return what - 4 < row.length ? row[what - 4] : NONE;
    }

    int is(int what) {
        int[] s = {all.now.wind, all.now.frost, all.now.hour, all.hands, all.now.x};
        return what < 0 || what > 4 ? -2 : s[what];
    }

    int rung(int i) {
        if (i == NONE) {
            return all.now.rung.size();
        }
        if (i < 0 || i >= all.now.rung.size()) {
            return -2;
        }
        return all.now.rung.get(i)[0] + 10 * all.now.rung.get(i)[1];
    }

    private List<Integer> heardRow() {
        List<Integer> h = new ArrayList<>();
        for (int[] s : all.now.rung) {
            if (s[1] == 1) {
                h.add(s[0]);
            }
        }
        return h;
    }

    int heard(int i) {
        List<Integer> h = heardRow();
        if (i == NONE) {
            return h.size();
        }
        return i < 0 || i >= h.size() ? -2 : h.get(i);
    }

    int book(int i, int what) {
        if (i == NONE) {
            return all.now.book.size();
        }
        if (i < 0 || i >= all.now.book.size() || what < 0 || what > 3) {
            return -2;
        }
        return all.now.book.get(i)[what];
    }

    private static List<Integer> list(int[] row) {
        List<Integer> l = new ArrayList<>();
        for (int v : row) {
            l.add(v);
        }
        return l;
    }

    private BigInteger ways(boolean sense, List<Integer> rest, int last, int n,
            Map<String, BigInteger> memo) {
        if (rest.isEmpty()) {
            return BigInteger.ONE;
        }
        String key = rest.size() + "," + (sense ? last + "," + n : "");
        BigInteger known = memo.get(key);
        if (known != null) {
            return known;
        }
        BigInteger sum = BigInteger.ZERO;
        for (int w = 0; w < all.words.size(); w++) {
            if (standsAhead(sense, rest, last, n, w)) {
                List<Integer> behind = rest.subList(all.words.get(w).length, rest.size());
                sum = sum.add(ways(sense, behind, w, n + 1, memo));
            }
        }
        memo.put(key, sum);
        return sum;
    }

    private boolean standsAhead(boolean sense, List<Integer> rest, int last, int n, int w) {
        List<Integer> row = list(all.words.get(w));
        if (row.size() > rest.size() || !rest.subList(0, row.size()).equals(row)) {
            return false;
        }
        return !sense || (n == 0 ? begins(w) : follows(law("follows"), last, w, n));
    }

    int readings(boolean sense) {
        return ways(sense, heardRow(), NONE, 0, new HashMap<>()).min(MILLION).intValue();
    }

    int reading(boolean sense, int i) {
        Map<String, BigInteger> memo = new HashMap<>();
        List<Integer> rest = heardRow();
        List<Integer> got = new ArrayList<>();
        if (ways(sense, rest, NONE, 0, memo).signum() == 0) {
            return -2;
        }
        while (!rest.isEmpty()) {
            int last = got.isEmpty() ? NONE : got.get(got.size() - 1);
            for (int w = 0; w < all.words.size(); w++) {
                if (standsAhead(sense, rest, last, got.size(), w)) {
                    List<Integer> behind = rest.subList(all.words.get(w).length, rest.size());
                    if (ways(sense, behind, w, got.size() + 1, memo).signum() > 0) {
                        got.add(w);
                        rest = behind;
                        break;
                    }
                }
            }
        }
        if (i == NONE) {
            return got.size();
        }
        return i < 0 || i >= got.size() ? -2 : got.get(i);
    }

    boolean weight(int word, int weight) {
        if (!isWord(word) || weight < 0 || weight > 99) {
            return false;
        }
        all.weights.put(word, weight);
        return true;
    }

    /** All ways to keep STROKES are gone through; a fraction by 10 to the length. */
    private BigInteger chance(int word, int p) {
        int[] row = all.words.get(word);
        BigInteger sum = BigInteger.ZERO;
        for (int keep = 0; keep < 1 << row.length; keep++) {
            List<Integer> left = new ArrayList<>();
            long product = 1;
            for (int i = 0; i < row.length; i++) {
                if ((keep >> i & 1) == 1) {
                    left.add(row[i]);
                    product *= 10 - p;
                } else {
                    product *= p;
                }
            }
            if (left.equals(heardRow())) {
                sum = sum.add(BigInteger.valueOf(product));
            }
        }
        return sum.multiply(BigInteger.TEN.pow(12 - row.length))
                .multiply(BigInteger.valueOf(all.weights.get(word)));
    }

    long meant(int word, int p, boolean low) {
        if (!isWord(word) || p < 0 || p > 10) {
            return NONE;
        }
        BigInteger sum = BigInteger.ZERO;
        for (int w = 0; w < all.words.size(); w++) {
            sum = sum.add(chance(w, p));
        }
        if (sum.signum() == 0) {
            return low ? 1 : 0;
        }
        BigInteger one = chance(word, p);
        BigInteger g = sum.gcd(one);
        return (low ? sum : one).divide(g).longValueExact();
    }

    private boolean allOver(int word, int wind) {
        int ahead = all.now.rung.size();
        for (int b : all.words.get(word)) {
            if (!over(b, ahead, wind)) {
                return false;
            }
            ahead++;
        }
        return true;
    }

    int shortest(int means) {
        for (int n = 1; n <= 4; n++) {
            for (int w = 0; w < all.words.size(); w++) {
                if (all.words.get(w).length == n && all.meanings.get(w)[1] == means
                        && allOver(w, all.now.wind)) {
                    return w;
                }
            }
        }
        return NONE;
    }

    int atWorst(int word) {
        if (!isWord(word)) {
            return NONE;
        }
        for (int wind = 9; wind >= 0; wind--) {
            boolean good = true;
            for (int less = 0; less <= wind; less++) {
                good &= allOver(word, less);
            }
            if (good) {
                return wind;
            }
        }
        return NONE;
    }

    private static int edits(List<Integer> a, List<Integer> b) {
        int[][] d = new int[a.size() + 1][b.size() + 1];
        for (int i = 0; i <= a.size(); i++) {
            for (int j = 0; j <= b.size(); j++) {
                if (i == 0 || j == 0) {
                    d[i][j] = i + j;
                } else {
                    int change = d[i - 1][j - 1] + (a.get(i - 1).equals(b.get(j - 1)) ? 0 : 1);
                    d[i][j] = Math.min(change, 1 + Math.min(d[i - 1][j], d[i][j - 1]));
                }
            }
        }
        return d[a.size()][b.size()];
    }

    int away(int one, int other) {
        if (!isWord(one) || !isWord(other)) {
            return NONE;
        }
        return edits(list(all.words.get(one)), list(all.words.get(other)));
    }

    int apart(int d) {
        if (d < 1 || d > 4) {
            return NONE;
        }
        int best = 0;
        for (int set = (1 << all.words.size()) - 1; set >= 0; set--) {
            boolean good = true;
            for (int i = 0; i < all.words.size() && good; i++) {
                for (int j = 0; j < i && good; j++) {
                    good = (set >> i & set >> j & 1) == 0 || away(i, j) >= d;
                }
            }
            if (good && Integer.bitCount(set) >= Integer.bitCount(best)) {
                best = set;
            }
        }
        return best;
    }

    int nearest() {
        int least = Integer.MAX_VALUE;
        for (int[] row : all.words) {
            least = Math.min(least, edits(list(row), heardRow()));
        }
        int bits = 0;
        for (int w = 0; w < all.words.size(); w++) {
            if (edits(list(all.words.get(w)), heardRow()) == least) {
                bits += 1 << w;
            }
        }
        return bits;
    }

    boolean hears(int word, int as) {
        if (!isWord(word) || !isWord(as)) {
            return false;
        }
        all.heardAs.put(word, as);
        return true;
    }

    int settles(int word, int what) {
        if (!isWord(word) || what < 0 || what > 2) {
            return NONE;
        }
        List<Integer> seen = new ArrayList<>();
        int w = word;
        int times = 0;
        while (!seen.contains(w)) {
            seen.add(w);
            w = all.heardAs.get(w);
            times++;
        }
        List<Integer> round = seen.subList(seen.indexOf(w), seen.size());
        return what == 0 ? times : what == 1 ? round.size() : Collections.min(round);
    }

    int line(int one, int other) {
        if (one == NONE) {
            all.lines.clear();
            return 0;
        }
        if (!isWord(one) || !isWord(other) || all.lines.size() == 8) {
            return -2;
        }
        all.lines.add(new int[] {one, other});
        return all.lines.size();
    }

    int whose() {
        int bits = 0;
        for (int t = 0; t < all.texts.size(); t++) {
            Ask law = all.texts.get(t).laws.get("follows");
            boolean right = true;
            for (int[] l : all.lines) {
                right &= follows(law, l[0], l[1], 1);
            }
            bits += right ? 1 << t : 0;
        }
        return bits;
    }

    int pairs() {
        int bits = 0;
        for (int[] l : all.lines) {
            bits |= 1 << 4 * all.meanings.get(l[0])[0] + all.meanings.get(l[1])[0];
        }
        return bits;
    }

    int tower(int tower, int bell) {
        if (tower != 0 && tower != 1) {
            return -2;
        }
        List<Integer> row = all.towers.get(tower);
        if (bell == NONE) {
            row.clear();
            return 0;
        }
        if (!isBell(bell) || row.size() == 12) {
            return -2;
        }
        row.add(bell);
        return row.size();
    }

    int lies(boolean run) {
        List<Integer> a = all.towers.get(0);
        List<Integer> b = all.towers.get(1);
        if (!run) {
            for (int i = 0; i < 12; i++) {
                Integer x = i < a.size() ? a.get(i) : null;
                Integer y = i < b.size() ? b.get(i) : null;
                if (x == null ? y != null : !x.equals(y)) {
                    return i;
                }
            }
            return NONE;
        }
        for (int n = a.size(); n > 0; n--) {
            for (int i = 0; i + n <= a.size(); i++) {
                if (Collections.indexOfSubList(b, a.subList(i, i + n)) >= 0) {
                    return n;
                }
            }
        }
        return 0;
    }

    private int room(int pitch) {
        int room = 10;
        for (int[] b : all.bells) {
            room = Math.min(room, Math.abs(b[1] - pitch));
        }
        return room;
    }

    int newBell(int d) {
        for (int p = 0; p <= 9 && d >= 1 && d <= 9; p++) {
            if (room(p) >= d) {
                return p;
            }
        }
        return NONE;
    }

    int farthest() {
        for (int d = 10; d > 0; d--) {
            for (int p = 0; p <= 9; p++) {
                if (room(p) == d) {
                    return d;
                }
            }
        }
        return 0;
    }

    int ropes() {
        int bits = 0;
        for (int b = 0; b < all.bells.size(); b++) {
            bits += all.bells.get(b)[2] <= all.hands ? 1 << b : 0;
        }
        return bits;
    }

    private static String rowOf(int n, int row) {
        String s = row < 0 ? "" : String.format("%0" + n + "d", row);
        if (s.length() != n) {
            return null;
        }
        for (int i = 0; i < n; i++) {
            if (s.indexOf('0' + i) < 0) {
                return null;
            }
        }
        return s;
    }

    private static void behind(String done, String rest, Set<String> into) {
        if (rest.length() < 2) {
            into.add(done + rest);
            return;
        }
        behind(done + rest.charAt(0), rest.substring(1), into);
        behind(done + rest.charAt(1) + rest.charAt(0), rest.substring(2), into);
    }

    private static int far(String from, String to) {
        Map<String, Integer> far = new HashMap<>();
        ArrayDeque<String> queue = new ArrayDeque<>();
        far.put(from, 0);
        queue.add(from);
        while (!far.containsKey(to)) {
            String r = queue.remove();
            Set<String> next = new LinkedHashSet<>();
            behind("", r, next);
            for (String s : next) {
                if (far.putIfAbsent(s, far.get(r) + 1) == null) {
                    queue.add(s);
                }
            }
        }
        return far.get(to);
    }

    int changes(int n, int from, int to, boolean row) {
        if (n < 2 || n > 5 || rowOf(n, from) == null || rowOf(n, to) == null) {
            return NONE;
        }
        String a = rowOf(n, from);
        String b = rowOf(n, to);
        int d = far(a, b);
        if (!row) {
            return d;
        }
        if (d == 0) {
            return from;
        }
        Set<String> next = new LinkedHashSet<>();
        behind("", a, next);
        int best = Integer.MAX_VALUE;
        for (String s : next) {
            if (far(s, b) == d - 1) {
                best = Math.min(best, Integer.parseInt(s));
            }
        }
        return best;
    }

    int takes(int words) {
        if (words < 0 || words >= 1 << all.words.size()) {
            return NONE;
        }
        int sum = 0;
        for (int w = 0; w < all.words.size(); w++) {
            sum += (words >> w & 1) * all.words.get(w).length;
        }
        return sum;
    }

    int image() {
        image = all.copy();
        return all.now.hour;
    }

    int back() {
        all = image.copy();
        return all.now.hour;
    }

    int about(int what) {
        int[] s = {all.bells.size(), all.words.size(), all.texts.size(), all.ruling,
            all.steps.size(), all.lines.size(), tape.size()};
        return what < 0 || what > 6 ? -2 : s[what];
    }
}
