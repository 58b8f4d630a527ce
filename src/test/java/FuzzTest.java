import java.util.ArrayList;
import java.util.List;
import java.util.Random;

/** Random runs of 512 calls, each answer held against the model's; the seeds are fixed. */
public final class FuzzTest {
    private static final int RUNS = Integer.getInteger("runs", 1500);
    private static final int FIRST = Integer.getInteger("first", 1);

    private final Random random;
    private final BellTongue program = new BellTongue();
    private final Model model = new Model();
    private final List<String> calls = new ArrayList<>();
    private boolean wrong = false;

    private FuzzTest(long seed) {
        random = new Random(seed);
    }

    public static void main(String[] args) {
        int bad = 0;
        for (int run = FIRST; run < FIRST + RUNS && bad < 5; run++) {
            if (!new FuzzTest(run).run(run)) {
                bad++;
            }
        }
        System.out.println(bad == 0 ? RUNS + " random runs are as the model's" : "runs differ");
        if (bad != 0) {
            System.exit(1);
        }
    }

    private boolean run(int run) {
        int flavour = random.nextInt(4);
        int made = random.nextInt(5) == 0 ? 0 : prelude();
        for (int i = made; i < 512 && !wrong; ) {
            i += once(flavour);
        }
        if (wrong) {
            System.out.println("run " + run + " of FuzzTest:");
            for (String call : calls) {
                System.out.println("  " + call);
            }
        }
        return !wrong;
    }

    /** Few BELLS and many WORDS of them, so that there is much to be read. */
    private int prelude() {
        int bells = 1 + random.nextInt(3);
        for (int b = 0; b < bells; b++) {
            int loud = 4 + random.nextInt(6);
            due("bell(" + loud + ", " + 3 * b + ", 1)", program.bell(loud, 3 * b, 1),
                    model.bell(loud, 3 * b, 1));
        }
        int words = 2 + random.nextInt(9);
        for (int w = 0; w < words; w++) {
            int[] row = {random.nextInt(bells), -1, -1, -1};
            for (int i = 1; i < 4 && random.nextInt(5) < 2; i++) {
                row[i] = random.nextInt(bells);
            }
            int kind = random.nextInt(4);
            int means = random.nextInt(6);
            due("word(" + row[0] + ", " + row[1] + ", " + row[2] + ", " + row[3] + ", " + kind
                    + ", " + means + ")",
                    program.word(row[0], row[1], row[2], row[3], kind, means),
                    model.word(row[0], row[1], row[2], row[3], kind, means));
        }
        return bells + words;
    }

    private void due(String call, long got, long want) {
        calls.add(call + " answered " + got + (got == want ? "" : ", due is " + want));
        wrong |= got != want;
    }

    private void due(String call, boolean got, boolean want) {
        due(call, got ? 1 : 0, want ? 1 : 0);
    }

    /** Mostly from low to high, now and then far outside. */
    private int some(int low, int high) {
        int dice = random.nextInt(60);
        if (dice == 0) {
            return random.nextInt();
        }
        if (dice == 1) {
            return random.nextBoolean() ? Integer.MIN_VALUE : Integer.MAX_VALUE;
        }
        if (dice < 6) {
            return random.nextBoolean() ? low - 1 - random.nextInt(2) : high + 1 + random.nextInt(2);
        }
        return low + random.nextInt(Math.max(1, high - low + 1));
    }

    private int aBell() {
        return some(0, Math.max(0, model.about(0) - 1));
    }

    private int aWord() {
        return some(0, Math.max(0, model.about(1) - 1));
    }

    private int maybeBell() {
        return random.nextInt(3) == 0 ? -1 : aBell();
    }

    private int once(int flavour) {
        int dice = random.nextInt(100);
        if (dice < 38) {
            return act(flavour);
        }
        if (dice < 42) {
            return tellText();
        }
        if (dice < 60) {
            tell();
        } else {
            ask();
        }
        return 1;
    }

    private int act(int flavour) {
        switch (random.nextInt(flavour == 1 ? 6 : 14)) {
            case 0: case 1: case 2: {
                int b = aBell();
                due("ring(" + b + ")", program.ring(b), model.ring(b));
                break;
            }
            case 3: case 4: case 5: {
                int w = aWord();
                due("speak(" + w + ")", program.speak(w), model.speak(w));
                break;
            }
            case 6: {
                boolean f = random.nextBoolean();
                int to = some(0, 9);
                due("set(" + f + ", " + to + ")", program.set(f, to), model.set(f, to));
                break;
            }
            case 7: {
                int n = random.nextInt(3) == 0 ? some(1, 60) : some(1, 3);
                due("hour(" + n + ")", program.hour(n), model.hour(n));
                break;
            }
            case 8:
                due("sunday()", program.sunday(), model.sunday());
                break;
            case 9: {
                int t = some(0, Math.max(0, model.about(2) - 1));
                due("played(" + t + ")", program.played(t), model.played(t));
                break;
            }
            case 10: {
                int seed = some(0, 9999);
                int n = some(1, 40);
                due("centuries(" + seed + ", " + n + ")", program.centuries(seed, n),
                        model.centuries(seed, n));
                break;
            }
            case 11:
                if (flavour == 2 && random.nextInt(5) == 0) {
                    return manyHours();
                }
                due("undo()", program.undo(), model.undo());
                break;
            case 12:
                due("undo()", program.undo(), model.undo());
                break;
            default:
                if (random.nextInt(6) != 0) {
                    break;
                }
                if (random.nextBoolean()) {
                    due("image()", program.image(), model.image());
                } else {
                    due("back()", program.back(), model.back());
                }
                break;
        }
        return 1;
    }

    private int manyHours() {
        int n = 20 + random.nextInt(150);
        for (int i = 0; i < n; i++) {
            due("hour(60)", program.hour(60), model.hour(60));
        }
        return n;
    }

    private void tell() {
        switch (random.nextInt(11)) {
            case 0: case 1: {
                int loud = some(1, 9);
                int pitch = some(0, 9);
                int men = random.nextInt(3) == 0 ? some(1, 9) : some(1, 3);
                due("bell(" + loud + ", " + pitch + ", " + men + ")",
                        program.bell(loud, pitch, men), model.bell(loud, pitch, men));
                break;
            }
            case 2: case 3: case 4: {
                int a = aBell();
                int b = maybeBell();
                int c = b == -1 && random.nextInt(9) != 0 ? -1 : maybeBell();
                int d = c == -1 && random.nextInt(9) != 0 ? -1 : maybeBell();
                int kind = some(0, 3);
                int means = random.nextBoolean() ? some(0, 3) : some(0, 99);
                due("word(" + a + ", " + b + ", " + c + ", " + d + ", " + kind + ", " + means + ")",
                        program.word(a, b, c, d, kind, means), model.word(a, b, c, d, kind, means));
                break;
            }
            case 5: {
                int men = random.nextBoolean() ? some(0, 99) : some(3, 9);
                due("hands(" + men + ")", program.hands(men), model.hands(men));
                break;
            }
            case 6: {
                int t = random.nextInt(4) == 0 ? -1 : some(0, Math.max(0, model.about(2) - 1));
                due("by(" + t + ")", program.by(t), model.by(t));
                break;
            }
            case 7: {
                int w = aWord();
                int weight = some(0, 99);
                due("weight(" + w + ", " + weight + ")", program.weight(w, weight),
                        model.weight(w, weight));
                break;
            }
            case 8: {
                int w = aWord();
                int as = aWord();
                due("hears(" + w + ", " + as + ")", program.hears(w, as), model.hears(w, as));
                break;
            }
            case 9: {
                int one = random.nextInt(9) == 0 ? -1 : aWord();
                int other = aWord();
                due("line(" + one + ", " + other + ")", program.line(one, other),
                        model.line(one, other));
                break;
            }
            default:
                for (int i = random.nextInt(6); i >= 0; i--) {
                    int tower = some(0, 1);
                    int bell = random.nextInt(40) == 0 ? -1 : aBell();
                    due("tower(" + tower + ", " + bell + ")", program.tower(tower, bell),
                            model.tower(tower, bell));
                }
                break;
        }
    }

    private int tellText() {
        String s = new RandomText(random).text();
        int count = 0;
        if (random.nextInt(5) != 0) {
            due("end(0)", program.end(0), model.end(0));
            count++;
        }
        int was = model.about(6);
        for (int from = 0; from < s.length(); from += 20) {
            int[] v = new int[5];
            for (int i = 0; i < 20; i++) {
                int c = from + i < s.length() ? s.charAt(from + i) : 0;
                v[i / 4] |= c << 24 - i % 4 * 8;
            }
            due("feed(" + v[0] + ", " + v[1] + ", " + v[2] + ", " + v[3] + ", " + v[4] + ")",
                    program.feed(v[0], v[1], v[2], v[3], v[4]),
                    model.feed(v[0], v[1], v[2], v[3], v[4]));
            count++;
        }
        int n = random.nextInt(20) == 0 ? some(0, 300) : was + s.length();
        due("end(" + n + ")", program.end(n), model.end(n));
        calls.add("  of " + s.replace("\n", "\\n"));
        due("text()", program.text(), model.text());
        due("fault(0)", program.fault(0), model.fault(0));
        due("fault(1)", program.fault(1), model.fault(1));
        int t = model.about(2) - 1;
        if (random.nextBoolean()) {
            due("by(" + t + ")", program.by(t), model.by(t));
        }
        return count + 4;
    }

    private void ask() {
        switch (random.nextInt(29)) {
            case 26: case 27: {
                boolean s = random.nextInt(4) != 0;
                int i = some(-1, Math.max(0, model.reading(s, -1)));
                due("reading(" + s + ", " + i + ")", program.reading(s, i), model.reading(s, i));
                break;
            }
            case 28: {
                int i = some(-1, Math.max(0, model.book(-1, 0)));
                int what = some(0, 3);
                due("book(" + i + ", " + what + ")", program.book(i, what), model.book(i, what));
                break;
            }
            case 0: {
                int b = aBell();
                int what = some(0, 3);
                due("ofBell(" + b + ", " + what + ")", program.ofBell(b, what),
                        model.ofBell(b, what));
                break;
            }
            case 1: {
                int w = aWord();
                int what = some(0, 7);
                due("ofWord(" + w + ", " + what + ")", program.ofWord(w, what),
                        model.ofWord(w, what));
                break;
            }
            case 2: {
                int what = some(0, 4);
                due("is(" + what + ")", program.is(what), model.is(what));
                break;
            }
            case 3: {
                int i = some(-1, Math.max(0, model.rung(-1)));
                due("rung(" + i + ")", program.rung(i), model.rung(i));
                break;
            }
            case 4: {
                int i = some(-1, Math.max(0, model.heard(-1)));
                due("heard(" + i + ")", program.heard(i), model.heard(i));
                break;
            }
            case 5: {
                int i = some(-1, 20);
                int what = some(0, 3);
                due("book(" + i + ", " + what + ")", program.book(i, what), model.book(i, what));
                break;
            }
            case 6: case 7: {
                boolean s = random.nextInt(4) != 0;
                due("readings(" + s + ")", program.readings(s), model.readings(s));
                break;
            }
            case 8: case 9: {
                boolean s = random.nextInt(4) != 0;
                int i = some(-1, 12);
                due("reading(" + s + ", " + i + ")", program.reading(s, i), model.reading(s, i));
                break;
            }
            case 10: case 11: {
                int w = aWord();
                int p = some(0, 10);
                boolean low = random.nextBoolean();
                due("meant(" + w + ", " + p + ", " + low + ")", program.meant(w, p, low),
                        model.meant(w, p, low));
                break;
            }
            case 12: {
                int means = random.nextBoolean() ? some(0, 3) : some(0, 99);
                due("shortest(" + means + ")", program.shortest(means), model.shortest(means));
                break;
            }
            case 13: {
                int w = aWord();
                due("atWorst(" + w + ")", program.atWorst(w), model.atWorst(w));
                break;
            }
            case 14: {
                int one = aWord();
                int other = aWord();
                due("away(" + one + ", " + other + ")", program.away(one, other),
                        model.away(one, other));
                break;
            }
            case 15: {
                int d = some(1, 4);
                due("apart(" + d + ")", program.apart(d), model.apart(d));
                break;
            }
            case 16:
                due("nearest()", program.nearest(), model.nearest());
                break;
            case 17: {
                int w = aWord();
                int what = some(0, 2);
                due("settles(" + w + ", " + what + ")", program.settles(w, what),
                        model.settles(w, what));
                break;
            }
            case 18:
                due("whose()", program.whose(), model.whose());
                break;
            case 19:
                due("pairs()", program.pairs(), model.pairs());
                break;
            case 20: {
                boolean run = random.nextBoolean();
                due("lies(" + run + ")", program.lies(run), model.lies(run));
                break;
            }
            case 21: {
                int d = some(1, 9);
                due("newBell(" + d + ")", program.newBell(d), model.newBell(d));
                break;
            }
            case 22:
                due("farthest()", program.farthest(), model.farthest());
                due("ropes()", program.ropes(), model.ropes());
                break;
            case 23:
                askChanges();
                break;
            case 24: {
                int words = some(0, (1 << model.about(1)) - 1);
                due("takes(" + words + ")", program.takes(words), model.takes(words));
                break;
            }
            default: {
                int what = some(0, 6);
                due("about(" + what + ")", program.about(what), model.about(what));
                break;
            }
        }
    }

    private int aRow(int n) {
        if (random.nextInt(12) == 0) {
            return some(0, 43210);
        }
        StringBuilder s = new StringBuilder();
        while (s.length() < n) {
            int d = random.nextInt(n);
            if (s.indexOf("" + d) < 0) {
                s.append(d);
            }
        }
        return Integer.parseInt(s.toString());
    }

    private void askChanges() {
        int n = some(2, 5);
        int rows = n < 2 || n > 5 ? 3 : n;
        int from = aRow(rows);
        int to = random.nextInt(8) == 0 ? from : aRow(rows);
        boolean row = random.nextBoolean();
        due("changes(" + n + ", " + from + ", " + to + ", " + row + ")",
                program.changes(n, from, to, row), model.changes(n, from, to, row));
    }
}
