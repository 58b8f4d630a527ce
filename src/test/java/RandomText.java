import java.util.ArrayList;
import java.util.List;
import java.util.Random;

/** Texts by the grammar, of which some are spoilt by a token or a byte. */
final class RandomText {
    private static final String[] OVER =
        {"loud", "pitch", "men", "wind", "frost", "hour", "strokes", "bell"};
    private static final String[] FOLLOWS = {"kind", "means", "next", "meaning", "place"};
    private static final String[] BEGINS = {"kind", "means"};
    private static final String[] ANY = {"over", "follows", "begins", "bell", "word", "ring",
        "speak", "wind", "frost", "hour", "sunday", "pitch", "men", "means", "or", "and", "not",
        "loud", "strokes", "kind", "next", "meaning", "place", "foo", "Over", "0", "1", "4", "6",
        "10", "61", "100", "9999", "10000", "99999999999", "<", "<=", ">", ">=", "=", "#", "+",
        "-", "*", "/", "^", "(", ")", ":", ";", "$", "!", ",", ".", "\u00e9", "\t", "\u0000"};

    private final Random random;
    private final List<String> tokens = new ArrayList<>();
    private int budget;

    RandomText(Random random) {
        this.random = random;
    }

    String text() {
        String s = attempt();
        for (int i = 0; i < 5 && s.length() > 280; i++) {
            s = attempt();
        }
        return s.length() > 300 ? s.substring(0, 300) : s;
    }

    private String attempt() {
        tokens.clear();
        List<String> laws = new ArrayList<>(List.of("over", "follows", "begins"));
        int clauses = random.nextInt(8) == 0 ? 22 + random.nextInt(5) : random.nextInt(9);
        for (int i = 0; i < clauses; i++) {
            if (clauses < 20 && random.nextInt(3) == 0 && !laws.isEmpty()) {
                int k = random.nextInt(laws.size());
                String law = random.nextInt(25) == 0 ? laws.get(k) : laws.remove(k);
                budget = random.nextInt(14);
                tokens.add(law);
                either(law);
                tokens.add(";");
            } else {
                clause(clauses >= 20);
            }
        }
        spoil();
        StringBuilder s = new StringBuilder();
        boolean loose = random.nextInt(4) == 0;
        for (String t : tokens) {
            boolean needs = s.length() > 0 && !t.isEmpty() && glues(s.charAt(s.length() - 1), t);
            if (needs && random.nextInt(40) != 0 || loose && random.nextInt(3) == 0) {
                s.append(random.nextInt(6) == 0 ? "\n" : " ");
            }
            s.append(t);
        }
        return s.toString();
    }

    private static boolean glues(char last, String t) {
        char next = t.charAt(0);
        return Character.isLetter(last) && Character.isLetter(next)
                || Character.isDigit(last) && Character.isDigit(next);
    }

    private void spoil() {
        if (tokens.isEmpty() || random.nextInt(3) != 0) {
            return;
        }
        int at = random.nextInt(tokens.size());
        switch (random.nextInt(4)) {
            case 0:
                tokens.remove(at);
                break;
            case 1:
                tokens.add(at, pick(ANY));
                break;
            case 2:
                while (tokens.size() > at) {
                    tokens.remove(at);
                }
                break;
            default:
                tokens.set(at, pick(ANY));
                break;
        }
    }

    private String pick(String[] from) {
        return from[random.nextInt(from.length)];
    }

    private void add(String... these) {
        tokens.addAll(List.of(these));
    }

    private String n(int low, int high) {
        if (random.nextInt(120) == 0) {
            return "" + (high + 1);
        }
        return (random.nextInt(30) == 0 ? "00" : "") + (low + random.nextInt(high - low + 1));
    }

    private void clause(boolean brief) {
        switch (brief ? 5 + random.nextInt(8) : random.nextInt(13)) {
            case 0: case 1:
                add("bell", n(1, 9), "pitch", n(0, 9), "men", n(1, 9), ";");
                break;
            case 2: case 3: case 4:
                add("word", n(0, 3), "means", n(0, 99), ":");
                for (int i = random.nextInt(4); i >= 0; i--) {
                    add(n(0, 2));
                }
                if (random.nextInt(25) == 0) {
                    add("1", "1", "1", "7");
                }
                add(";");
                break;
            case 5: case 6:
                add("ring", n(0, brief ? 2 : 3), ";");
                break;
            case 7: case 8:
                add("speak", n(0, 3), ";");
                break;
            case 9:
                add("wind", n(0, 9), ";");
                break;
            case 10:
                add("frost", n(0, 9), ";");
                break;
            case 11:
                add("hour", n(1, 60), ";");
                break;
            default:
                add("sunday", ";");
                break;
        }
    }

    private void either(String law) {
        both(law);
        while (random.nextInt(4) == 0) {
            add("or");
            both(law);
        }
    }

    private void both(String law) {
        ask(law);
        while (random.nextInt(4) == 0) {
            add("and");
            ask(law);
        }
    }

    private void ask(String law) {
        while (random.nextInt(5) == 0) {
            add("not");
        }
        sum(law);
        add(pick(new String[] {"<", "<=", ">", ">=", "=", "#"}));
        sum(law);
    }

    private void sum(String law) {
        product(law);
        while (budget > 0 && random.nextInt(3) == 0) {
            budget--;
            add(random.nextBoolean() ? "+" : "-");
            product(law);
        }
    }

    private void product(String law) {
        power(law);
        while (budget > 0 && random.nextInt(4) == 0) {
            budget--;
            add(random.nextBoolean() ? "*" : "/");
            power(law);
        }
    }

    private void power(String law) {
        one(law);
        if (budget > 0 && random.nextInt(4) == 0) {
            budget--;
            add("^");
            power(law);
        }
    }

    private void one(String law) {
        if (budget > 0 && random.nextInt(4) == 0) {
            budget--;
            add("(");
            sum(law);
            add(")");
        } else if (budget > 0 && random.nextInt(6) == 0) {
            budget--;
            add("-");
            one(law);
        } else if (random.nextInt(3) == 0) {
            add(random.nextInt(8) == 0 ? n(0, 9999) : n(0, 9));
        } else if (random.nextInt(60) == 0) {
            add(pick(OVER));
        } else {
            add(pick(law.equals("over") ? OVER : law.equals("follows") ? FOLLOWS : BEGINS));
        }
    }
}
