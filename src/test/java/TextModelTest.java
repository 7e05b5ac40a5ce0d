import java.util.Random;

/** Texts by chance: their faults, and what rules are worth, as the plain texts have them. */
public final class TextModelTest {
    private static final String SIGNS = "y:?|&!()[]=<>+-*/;tfkcbador0123456789  ";

    private static final Random RANDOM = new Random(7);

    private TextModelTest() {
    }

    public static void main(String[] args) {
        int good = 0;
        for (int i = 0; i < 60000; i++) {
            String text = i % 4 == 0 ? prefixed() : mutated(rule(), RANDOM.nextInt(4));
            if (text.length() <= 200) {
                int due = PlainTexts.faultOfRule(text);
                good += due == -1 ? 1 : 0;
                Due.same("fault of <" + text + ">", Due.fault(new SevenTown(2), 1, text), due);
            }
        }
        Due.yes("many without a fault", good > 10000);
        for (int i = 0; i < 20000; i++) {
            worth(rule());
        }
        for (int i = 0; i < 20000; i++) {
            net();
        }
        Due.report();
    }

    private static String prefixed() {
        StringBuilder text = new StringBuilder("y:");
        for (int i = RANDOM.nextInt(12); i > 0; i--) {
            text.append(SIGNS.charAt(RANDOM.nextInt(SIGNS.length())));
        }
        return text.toString();
    }

    private static String mutated(String text, int times) {
        StringBuilder changed = new StringBuilder(text);
        for (int i = 0; i < times && changed.length() > 0; i++) {
            int at = RANDOM.nextInt(changed.length());
            char sign = SIGNS.charAt(RANDOM.nextInt(SIGNS.length()));
            switch (RANDOM.nextInt(4)) {
                case 0 -> changed.setCharAt(at, sign);
                case 1 -> changed.deleteCharAt(at);
                case 2 -> changed.insert(at, sign);
                default -> changed.setLength(at);
            }
        }
        return changed.toString();
    }

    private static String rule() {
        StringBuilder rule = new StringBuilder();
        int clauses = 1 + RANDOM.nextInt(3);
        for (int i = 0; i < clauses; i++) {
            rule.append(i > 0 ? ";" : "").append(blank()).append("y:");
            if (RANDOM.nextInt(3) > 0) {
                rule.append(condition(6)).append(blank()).append('?');
            }
            rule.append(sum(6)).append(blank());
        }
        return rule.toString();
    }

    private static String blank() {
        return RANDOM.nextInt(8) == 0 ? " " : "";
    }

    private static String condition(int depth) {
        String text = truth(depth);
        while (RANDOM.nextInt(4) == 0) {
            text += blank() + "|" + truth(depth);
        }
        return text;
    }

    private static String truth(int depth) {
        String text = unit(depth);
        while (RANDOM.nextInt(4) == 0) {
            text += blank() + "&" + unit(depth);
        }
        return text;
    }

    private static String unit(int depth) {
        int kind = depth == 0 ? 2 : RANDOM.nextInt(5);
        if (kind == 0) {
            return blank() + "!" + unit(depth - 1);
        }
        if (kind == 1) {
            return blank() + "(" + condition(depth - 1) + ")";
        }
        return sum(depth) + blank() + "=<>".charAt(RANDOM.nextInt(3)) + sum(depth);
    }

    private static String sum(int depth) {
        String text = atom(depth);
        while (RANDOM.nextInt(5) < 2) {
            text += blank() + "+-*/".charAt(RANDOM.nextInt(4)) + atom(depth);
        }
        return text;
    }

    private static String atom(int depth) {
        int kind = depth == 0 ? 1 : RANDOM.nextInt(5);
        if (kind == 0) {
            return blank() + "[" + sum(depth - 1) + "]";
        }
        if (kind < 3) {
            return blank() + "tfkcbador".charAt(RANDOM.nextInt(9));
        }
        String digits = "" + RANDOM.nextInt(RANDOM.nextBoolean() ? 4 : 10000);
        return blank() + (RANDOM.nextInt(6) == 0 && digits.length() < 4 ? "0" + digits : digits);
    }

    /** A letter's way, and years, by a rule. */
    private static void worth(String rule) {
        if (rule.length() > 200) {
            return;
        }
        int people = 4 + RANDOM.nextInt(3);
        SevenTown town = new SevenTown(people);
        PlainTown plain = new PlainTown(people);
        for (int i = 0; i < 7; i++) {
            int one = RANDOM.nextInt(people);
            int other = RANDOM.nextInt(people);
            if (town.tie(one, other)) {
                plain.put(one, other, true);
            }
        }
        Due.same("text of " + rule, Due.text(town, 1, rule), 0);
        plain.rules.add(rule);
        int from = RANDOM.nextInt(people);
        int to = (from + 1 + RANDOM.nextInt(people - 1)) % people;
        for (int i = 0; i < 8; i++) {
            Due.same("send by " + rule, town.send(0, from, to, i), plain.send(0, from, to, i));
        }
        for (int i = 0; i < people; i++) {
            int most = Math.max(plain.degree(i), RANDOM.nextInt(4));
            plain.most[i] = most;
            town.most(i, most);
        }
        long seed = RANDOM.nextLong();
        Due.same("years", town.years(0, 20, 3, seed), plain.years(0, 20, 3, seed));
        for (int i = 0; i < people; i++) {
            for (int j = 0; j < people; j++) {
                Due.same("ties behind years by " + rule, Due.knows(town, i) >> j & 1,
                        plain.tied[i][j] ? 1 : 0);
            }
        }
    }

    private static void net() {
        int people = 2 + RANDOM.nextInt(8);
        int[] most = new int[people];
        SevenTown town = new SevenTown(people);
        for (int i = 0; i < people; i++) {
            most[i] = RANDOM.nextInt(10);
            town.most(i, most[i]);
        }
        StringBuilder text = new StringBuilder();
        int ties = RANDOM.nextInt(9);
        for (int i = 0; i < ties; i++) {
            text.append(i > 0 ? "," : "").append(blank()).append(person(people)).append(blank())
                    .append(person(people)).append(blank());
        }
        if (RANDOM.nextInt(4) == 0 && text.length() > 0) {
            text.setCharAt(RANDOM.nextInt(text.length()), ", ab;\u00e9A".charAt(RANDOM.nextInt(7)));
        }
        Due.same("fault of <" + text + ">", Due.fault(town, 0, text.toString()),
                PlainTexts.faultOfNet(text.toString(), people, most));
    }

    private static char person(int people) {
        return (char) ('a' + RANDOM.nextInt(people + (RANDOM.nextInt(9) == 0 ? 1 : 0)));
    }
}
