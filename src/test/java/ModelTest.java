import java.util.Random;

/**
 * Towns by chance, with calls by chance, each answer as the plain town has it. No town is asked
 * more than 512 times: what later calls answer is free.
 */
public final class ModelTest {
    private static final String[] RULES = {
        "y:t*1000+f*100-a", "y:0-b*3-a;y:1", "y:f=1|t=1?9999-b;y:k-c*2-b", "y:d*3-k+c*c-o/2",
        "y:r>3&!c=0?5+c;y:d>2?3;y:0-1", "y:[o-k]*[r-2]/[c-1]", "y:k", "y:!(d=2|r<2)?o+1;y:0-k",
        "y:1", "y:0-9*b+k*2", "y:d=2&c>0?c*4-o;y:d=0?1", "y:3-k", "y:c+c-k;y:7",
    };

    private final Random random;
    private SevenTown town;
    private PlainTown plain;
    private String run;

    private ModelTest(long seed) {
        random = new Random(seed);
    }

    public static void main(String[] args) {
        for (int seed = 0; seed < 2400; seed++) {
            new ModelTest(seed).run(seed);
        }
        for (int seed = 0; seed < 3; seed++) {
            new ModelTest(1000 + seed).greatTown(seed);
        }
        mends();
        Due.report();
    }

    private int upTo(int bound) {
        return random.nextInt(bound);
    }

    /** One of the people, now and then somebody that there is not. */
    private int one() {
        return upTo(20) == 0 ? plain.people + upTo(3) - upTo(2) * (plain.people + 4)
                : upTo(plain.people);
    }

    private int oneOrNone() {
        return upTo(3) == 0 ? -1 : one();
    }

    private void run(int seed) {
        int people = 2 + upTo(7);
        run = "seed " + seed + " of " + people + ": ";
        town = new SevenTown(people);
        plain = new PlainTown(people);
        for (int i = 0; i < 2; i++) {
            String rule = RULES[upTo(RULES.length)];
            Due.same(run + rule, Due.text(town, 1, rule), i);
            plain.rules.add(rule);
        }
        int changes = upTo(40);
        for (int i = 0; i < changes; i++) {
            alter();
        }
        look();
    }

    private void alter() {
        int one = one();
        int other = one();
        switch (upTo(13)) {
            case 0, 1, 2 -> {
                boolean due = plain.two(one, other) && !plain.tied[one][other]
                        && plain.degree(one) < plain.most[one]
                        && plain.degree(other) < plain.most[other];
                Due.same(run + "tie", town.tie(one, other) ? 1 : 0, due ? 1 : 0);
                if (due) {
                    plain.put(one, other, true);
                }
            }
            case 3 -> {
                boolean due = plain.two(one, other) && plain.tied[one][other];
                Due.same(run + "drop", town.drop(one, other) ? 1 : 0, due ? 1 : 0);
                if (due) {
                    plain.put(one, other, false);
                }
            }
            case 4 -> {
                int v = upTo(12) - 1;
                boolean due = plain.has(one) && v >= 0 && v <= 9 && v >= plain.degree(one);
                Due.same(run + "most", town.most(one, v) ? 1 : 0, due ? 1 : 0);
                if (due) {
                    plain.most[one] = v;
                }
            }
            case 5, 6, 7 -> {
                int much = upTo(8) == 0 ? 0 : upTo(101);
                boolean due = plain.two(one, other) && much <= 99;
                Due.same(run + "need", town.need(one, other, much) ? 1 : 0, due ? 1 : 0);
                if (due) {
                    plain.much[one][other] = much;
                }
            }
            case 8 -> {
                int v = upTo(12) - 1;
                Due.same(run + "cost", town.cost(v) ? 1 : 0, v >= 0 ? 1 : 0);
                plain.cost = v >= 0 ? v : plain.cost;
            }
            case 9 -> net();
            case 10 -> {
                int jumps = upTo(3) == 0 ? upTo(1100) : 1 + upTo(7);
                Due.same(run + "ring", town.ring(jumps), plain.ring(jumps));
            }
            case 11 -> Due.same(run + "image", town.image(), plain.image());
            default -> {
                if (upTo(3) == 0) {
                    Due.same(run + "back", town.back(), plain.back());
                }
            }
        }
    }

    private void net() {
        StringBuilder text = new StringBuilder();
        boolean[][] tied = new boolean[plain.people][plain.people];
        int ties = upTo(10);
        for (int i = 0; i < ties; i++) {
            int one = upTo(plain.people);
            int other = upTo(plain.people);
            text.append(i > 0 ? "," : "").append((char) ('a' + one)).append((char) ('a' + other));
            tied[one][other] = true;
            tied[other][one] = true;
        }
        int fault = PlainTexts.faultOfNet(text.toString(), plain.people, plain.most);
        Due.same(run + "fault of " + text, Due.fault(town, 0, text.toString()), fault);
        Due.same(run + "text of " + text, town.text(0), fault == -1 ? ties : -1);
        if (fault == -1) {
            plain.tied = tied;
        }
    }

    private void look() {
        ties();
        for (int one = 0; one < plain.people; one++) {
            int other = one();
            pair(one, other);
            single(one);
        }
        Due.same(run + "apart of no one", town.apart(-1, 0), -1);
        market();
        rules();
        sets();
        ties();
    }

    private void ties() {
        for (int i = 0; i < plain.people; i++) {
            int known = 0;
            for (int j = 0; j < plain.people; j++) {
                known |= plain.tied[i][j] ? 1 << j : 0;
            }
            Due.same(run + "knows " + i, Due.knows(town, i), known);
            Due.same(run + "age", town.of(i, 3), plain.age[i]);
            Due.same(run + "most", town.of(i, 4), plain.most[i]);
        }
    }

    private void pair(int one, int other) {
        Due.same(run + "far", town.far(one, other), plain.far(one, other));
        Due.same(run + "ways", town.ways(one, other), plain.ways(one, other));
        Due.same(run + "on all", town.over(one, other, 0), plain.over(one, other, 0));
        Due.same(run + "on some", town.over(one, other, 1), plain.over(one, other, 1));
        Due.same(run + "load", town.load(one, other), plain.load(one, other));
        Due.same(run + "apart", town.apart(one, other), plain.apart(one, other));
        Due.same(run + "loss", town.loss(one, other), plain.loss(one, other));
        Due.same(run + "common", town.common(one, other),
                plain.two(one, other) ? plain.common(one, other) : -1);
    }

    private void single(int one) {
        for (int what = 0; what < 4; what++) {
            Due.same(run + "of " + what, town.of(one, what), plain.of(one, what));
        }
        Due.same(run + "value", town.value(one), plain.value(one));
        int from = upTo(1 << plain.people + 1);
        int rounds = upTo(5);
        Due.same(run + "word", town.word(from, rounds), plain.word(from, rounds));
        Due.same(run + "out", town.out(from), plain.out(from));
    }

    private void market() {
        for (int i = 0; i < 4; i++) {
            int one = one();
            int drops = oneOrNone();
            int takes = one();
            int theirs = oneOrNone();
            for (int side = 0; side < 2; side++) {
                Due.same(run + "gain", town.gain(one, drops, takes, theirs, side),
                        plain.gain(one, drops, takes, theirs, side));
            }
            for (int what = 0; what < 4; what++) {
                Due.same(run + "best " + what, town.best(one, what), plain.best(one, what));
            }
        }
        Due.same(run + "stable", town.stable() ? 1 : 0, plain.stable() ? 1 : 0);
        int one = one();
        int drops = oneOrNone();
        int takes = one();
        int theirs = oneOrNone();
        Due.same(run + "change", town.change(one, drops, takes, theirs) ? 1 : 0,
                plain.change(one, drops, takes, theirs) ? 1 : 0);
        if (upTo(4) == 0) {
            Due.same(run + "turn", town.turn(), plain.turn());
        }
    }

    private void rules() {
        for (int i = 0; i < 4; i++) {
            int rule = upTo(2);
            int from = one();
            int to = one();
            Due.same(run + "send", town.send(rule, from, to, -1), plain.send(rule, from, to, -1));
            int gift = upTo(62);
            Due.same(run + "gift", town.send(rule, from, to, gift),
                    plain.send(rule, from, to, gift));
        }
        int rule = upTo(2);
        Due.same(run + "comes", town.comes(rule, 0), plain.comes(rule, 0));
        Due.same(run + "gifts", town.comes(rule, 1), plain.comes(rule, 1));
        if (upTo(3) == 0) {
            int death = upTo(4) == 0 ? 0 : upTo(60);
            int n = 1 + upTo(4);
            long seed = random.nextLong();
            Due.same(run + "years", town.years(rule, death, n, seed),
                    plain.years(rule, death, n, seed));
        }
    }

    private void sets() {
        for (int what = 0; what < 5; what++) {
            Due.same(run + "all " + what, town.all(what), plain.all(what));
            Due.same(run + "set " + what, town.set(what), plain.set(what));
            Due.same(run + "threes " + what, town.threes(what), plain.threes(what));
            Due.same(run + "courier " + what, town.courier(what), plain.courier(what));
            Due.same(run + "dear " + what, town.dear(what), plain.dear(what));
            Due.same(run + "bears " + what, town.bears(what), plain.bears(what));
            Due.same(run + "broken " + what, town.broken(what), plain.broken(what));
            Due.same(run + "begin " + what, town.begin(what), plain.begin(what));
            Due.same(run + "fine " + what, town.fine(what, 0), plain.fine(what, 0));
            Due.same(run + "sum of fine " + what, town.fine(what, 1), plain.fine(what, 1));
        }
        Due.same(run + "likely", town.likely(), plain.likely());
        for (int ties = 0; ties < 11; ties++) {
            Due.same(run + "bound " + ties, town.bound(ties), plain.bound(ties));
        }
    }

    /** Towns of many people, with calls alone for which the plain town does not take too long. */
    private void greatTown(int seed) {
        run = "great town " + (18 + seed) + ": ";
        for (int one = 0; one < 18 + seed; one++) {
            grow(seed);
            for (int other = 0; other < plain.people; other++) {
                greatPair(one, other);
            }
            single(one);
        }
        grow(seed);
        for (int what = 0; what < 4; what++) {
            Due.same(run + "all " + what, town.all(what), plain.all(what));
            Due.same(run + "set " + what, town.set(what), plain.set(what));
            Due.same(run + "broken " + what, town.broken(what), plain.broken(what));
            Due.same(run + "courier " + what, town.courier(what), plain.courier(what));
            Due.same(run + "dear " + what, town.dear(what), plain.dear(what));
            Due.same(run + "fine " + what, town.fine(what, 0), plain.fine(what, 0));
            Due.same(run + "begin " + what, town.begin(what), plain.begin(what));
        }
        int one = upTo(plain.people);
        int other = (one + 1 + upTo(plain.people - 1)) % plain.people;
        Due.same(run + "apart", town.apart(one, other), plain.apart(one, other));
        grow(seed);
        manyYears();
    }

    /** The same great town each time that the seed is the same. */
    private void grow(int seed) {
        Random ties = new Random(seed);
        int people = 18 + seed;
        town = new SevenTown(people);
        plain = new PlainTown(people);
        Due.text(town, 1, RULES[0]);
        plain.rules.add(RULES[0]);
        for (int i = 0; i < 16 + 8 * seed; i++) {
            int one = ties.nextInt(people);
            int other = ties.nextInt(people);
            if (town.tie(one, other)) {
                plain.put(one, other, true);
            }
        }
    }

    private void greatPair(int one, int other) {
        Due.same(run + "far", town.far(one, other), plain.far(one, other));
        Due.same(run + "ways", town.ways(one, other), plain.ways(one, other));
        Due.same(run + "on all", town.over(one, other, 0), plain.over(one, other, 0));
        Due.same(run + "on some", town.over(one, other, 1), plain.over(one, other, 1));
        Due.same(run + "load", town.load(one, other), plain.load(one, other));
        Due.same(run + "send", town.send(0, one, other, -1), plain.send(0, one, other, -1));
    }

    private void manyYears() {
        for (int rule = 1; rule < 6; rule++) {
            String text = RULES[rule + 1];
            Due.same(run + text, Due.text(town, 1, text), rule);
            plain.rules.add(text);
            int death = upTo(10);
            long seed = random.nextLong();
            Due.same(run + "years", town.years(rule, death, 30, seed),
                    plain.years(rule, death, 30, seed));
            ties();
            Due.same(run + "gifts", town.comes(rule, 1), plain.comes(rule, 1));
        }
    }

    private static void mends() {
        for (int seed = 0; seed < 1500; seed++) {
            Random random = new Random(seed);
            int people = 2 + random.nextInt(4);
            SevenTown town = new SevenTown(people);
            PlainTown plain = new PlainTown(people);
            for (int i = 0; i < people; i++) {
                plain.most[i] = random.nextInt(4);
                town.most(i, plain.most[i]);
            }
            for (int i = 0; i < random.nextInt(6); i++) {
                int one = random.nextInt(people);
                int other = random.nextInt(people);
                if (town.tie(one, other)) {
                    plain.put(one, other, true);
                }
            }
            Due.same("mend of seed " + seed, town.mend(), plain.mend());
        }
    }
}
