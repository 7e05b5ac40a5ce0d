/** Promises 28 to 30, and the terms of what rules are worth, letters, years. */
public final class RulesTest {
    private static final int[] NOBODY = {5, 6, 20, 32, 37, Integer.MAX_VALUE, -1, -2, -32,
        Integer.MIN_VALUE};

    private RulesTest() {
    }

    public static void main(String[] args) {
        worth();
        bounds();
        conditions();
        clausesInOrder();
        promise28Send();
        promise28Refused();
        sendByEachLetter();
        howOften();
        sixtyGifts();
        promise29Comes();
        promise29Refused();
        promise30Deaths();
        draws();
        dyingByOneSeed();
        births();
        asItIsThen();
        birthsByEachLetter();
        lettersNotTold();
        fullAndCost();
        fullAndSeveral();
        mostOfNothing();
        promise30Refused();
        Due.report();
    }

    /**
     * One knows two: b, whose number is 2 away from d's, and c (1), so that a rule
     * "y:a=2?SUM;y:N" sends to b just if the sum is at least N. (No N is above 1,000,000.)
     */
    private static void sum(String sum, int due) {
        sumIs(sum, due, true);
        if (due < 1000000) {
            sumIs(sum, due + 1, false);
        }
    }

    private static void sumIs(String sum, int least, boolean due) {
        SevenTown town = Due.town(4, "ab,ac,bd,cd");
        String bound = least >= 0 ? "" + least : "0-" + -least;
        if (least > 9999) {
            bound = least / 1000 + "*1000+" + least % 1000;
        } else if (least < -9999) {
            bound = "0-" + -least / 1000 + "*1000-" + -least % 1000;
        }
        int rule = Due.text(town, 1, "y:a=2?" + sum + ";y:" + bound);
        Due.same("rule of " + sum, rule, 0);
        Due.same(sum + " >= " + least, town.send(0, 0, 3, 1), due ? 1 : 2);
    }

    private static void worth() {
        Due.term("SUM: TERMS with + or - between; TERM: ATOMS with * or / between; ATOM: a number"
                + " (1 to 4 digits), a letter (t f k c b a d o r), [ SUM ].");
        sum("7", 7);
        sum("1+2*3", 7);
        sum("[1+2]*3", 9);
        sum("9-3-2", 4);
        sum("9-[3-2]", 8);
        sum("24/4/3", 2);
        sum("24/[4/2]", 12);
        sum("2*3+4*5", 26);
        sum("0007", 7);
        sum(" 1 + 2 ", 3);
        sum("9999", 9999);
        sum("[[[[[[8]]]]]]", 8);
        Due.term("Letters: t 1 if that is the one meant, f 1 if that KNOWS the one meant, k how"
                + " many that KNOWS, c how many both KNOW, b how often it was there, a how far"
                + " their numbers are apart (that one's and the one's meant).");
        sum("t", 0);
        sum("f", 1);
        sum("k", 2);
        sum("c", 0);
        sum("a", 2);
        sum("b", 0);
        Due.term("Letters that are not told of what is asked are 0.");
        sum("d", 0);
        sum("o", 0);
        sum("r", 0);
    }

    private static void bounds() {
        Due.term("Behind each sign numbers are within -1,000,000 .. 1,000,000; / cuts towards 0,"
                + " by 0 gives 0.");
        sum("7/2", 3);
        sum("8/2", 4);
        sum("1/2", 0);
        sum("[0-1]/2", 0);
        sum("[0-7]/2", -3);
        sum("7/[0-2]", -3);
        sum("[0-7]/[0-2]", 3);
        sum("5/0", 0);
        sum("[0-5]/0", 0);
        sum("0/0", 0);
        sum("5/0+3", 3);
        sum("5/[2-2]*7", 0);
        sum("5/[7/9]", 0);
        sum("1000*1000", 1000000);
        sum("1000*1000+1", 1000000);
        sum("1000*1000-1", 999999);
        sum("1001*999", 999999);
        sum("1001*999+1", 1000000);
        sum("1001*999+2-1", 999999);
        sum("0-1000*1000", -1000000);
        sum("0-1000*1000-1+1", -999999);
        sum("0-1001*999-2+1", -999999);
        sum("1000*1000/[0-1]", -1000000);
        sum("[0-1000*1000]/[0-1]", 1000000);
        sum("1000*1000*[1000*1000]", 1000000);
        sum("1000*1000*[0-1000*1000]", -1000000);
        sum("[0-1000*1000]*[0-1000*1000]-1", 999999);
        sum("[0-1000*1000]-1000*1000+1000*1000", 0);
        sum("9999*100", 999900);
        sum("9999*1000", 1000000);
        sum("9999*9999-1", 999999);
        sum("9999*9999+1", 1000000);
        sum("0-9999*9999", -1000000);
        sum("0-9999*9999-1", -1000000);
        sum("0-9999*9999+1", -999999);
        sum("9999*9999*[0-9999]", -1000000);
        sum("9999*9999/1000", 1000);
        sum("9999*9999*0", 0);
        sum("9999*9999+9999*9999-9999*9999", 0);
    }

    private static void conditions() {
        Due.term("CONDITION: TRUTHS with | between; TRUTH: UNITS with & between; UNIT: ! UNIT, ("
                + " CONDITION ), or SUM, one of = < >, SUM.");
        clauses("1=1?5;y:9", 5);
        clauses("1=2?5;y:9", 9);
        clauses("1<2?5", 5);
        clauses("2<2?5;y:7", 7);
        clauses("3>2?5", 5);
        clauses("2>2?5", 0);
        clauses("1=2?5", 0);
        clauses("1=2?5;y:2=1?7", 0);
        clauses("!1=2?5", 5);
        clauses("!!1=2?5", 0);
        clauses("1=2&1=1?5;y:6", 6);
        clauses("1=2|1=1?5;y:6", 5);
        clauses("1=1|1=1&1=2?5;y:6", 5);
        clauses("(1=1|1=1)&1=2?5;y:6", 6);
        clauses("!1=1|1=1?5;y:6", 5);
        clauses("!(1=1|1=1)?5;y:6", 6);
        clauses("!1<2?5;y:6", 6);
        clauses("!2>1?5;y:6", 6);
        clauses("!!(1<2&2>1)?5;y:6", 5);
        clauses("1=2&1=1|1=1?5;y:6", 5);
        clauses("1+1=2&[3]*2>5?4;y:6", 4);
        clauses("!1=1&1=2?5;y:6", 6);
        clauses("!(1=1&1=2)?5;y:6", 5);
        clauses("!!!!!!1=1?5;y:6", 5);
        clauses("((((((1=1))))))?5;y:6", 5);
        clauses("0-1<0?5;y:6", 5);
        clauses("0-1>0?5;y:6", 6);
        clauses("1000*1000+1=1000*1000?5;y:6", 5);
        clauses("1=1|1=2|1=2?5;y:6", 5);
        clauses("1=2|1=2|1=1?5;y:6", 5);
        clauses("1=1&1=1&1=2?5;y:6", 6);
        clauses("1=2&1=1&1=1?5;y:6", 6);
        clauses("1=2|(1=1)?5;y:6", 5);
        clauses("1=1|(1=2)?5;y:6", 5);
        clauses("1=1&(1=2)?5;y:6", 6);
        clauses("1=2&(1=1)?5;y:6", 6);
        clauses("1=1&(1=2|1=1)?5;y:6", 5);
        clauses("1=2&(1=2|1=1)?5;y:6", 6);
        clauses("1=2|(1=1&1=1)|1=2?5;y:6", 5);
        clauses("1=1&!(1=1&1=2)&1=1?5;y:6", 5);
        clauses("1=2|1=1&(1=2|1=1)?5;y:6", 5);
        clauses("1=2|1=1&(1=2|1=2)?5;y:6", 6);
    }

    private static void clausesInOrder() {
        Due.term("WORTH: the SUM of the first CLAUSE whose CONDITION holds (or has none), 0"
                + " without.");
        clauses("4;y:6", 4);
        clauses("1=1?4;y:6", 4);
        clauses("1=2?4;y:6", 6);
        clauses("1=2?1;y:1=3?2;y:1=1?3;y:4", 3);
        clauses("1=2?1;y:1=3?2;y:5;y:4", 5);
        clauses("1=2?1;y:3;y:1=1?4", 3);
        clauses("1=2?9", 0);
        clauses("1=2?9;y:2=3?9;y:3=4?9", 0);
        clauses("1=2?9;y:0-3", -3);
    }

    /** What the clauses are worth for c; b, told by its a, is worth as much, or one more. */
    private static void clauses(String clauses, int due) {
        SevenTown town = Due.town(4, "ab,ac,bd,cd");
        Due.same("rule " + clauses, Due.text(town, 1, "y:!a=1?" + told(due) + ";y:" + clauses), 0);
        Due.same(clauses + " is not more", town.send(0, 0, 3, 1), 1);
        Due.same("rule " + clauses, Due.text(town, 1, "y:!a=1?" + told(due - 1) + ";y:" + clauses),
                1);
        Due.same(clauses + " is not less", town.send(1, 0, 3, 1), 2);
    }

    private static String told(int number) {
        return number < 0 ? "0-" + -number : "" + number;
    }

    private static void promise28Send() {
        Due.promise(28, "A LETTER: how many gifts (i NONE), who has it behind i gifts (0: from).");
        Due.term("A LETTER goes from one to another one by a RULE: who has it and is not the one"
                + " meant gives it to that one of those it KNOWS with the greatest WORTH (of"
                + " several the lowest).");
        SevenTown town = Due.town(6, "ab,bc,cd,bd", "y:t*1000-a");
        Due.same("a to d", town.send(0, 0, 3, -1), 2);
        Due.same("from", town.send(0, 0, 3, 0), 0);
        Due.same("behind one", town.send(0, 0, 3, 1), 1);
        Due.same("behind two", town.send(0, 0, 3, 2), 3);
        Due.same("to one known", town.send(0, 1, 0, -1), 1);
        Due.same("who knows nobody has it at first", town.send(0, 5, 0, 0), 5);
        Due.same("greatest below 0", Due.text(town, 1, "y:0-9-k"), 1);
        Due.same("c and d know two, a one", town.send(1, 1, 5, 1), 0);
        Due.same("of several the lowest", Due.text(town, 1, "y:0-a/9"), 2);
        Due.same("of several the lowest", town.send(2, 3, 0, 1), 1);
        Due.same("not 0 to begin with", Due.text(town, 1, "y:0-1000*1000"), 3);
        Due.same("the only one, worth the least there is", town.send(3, 0, 3, 1), 1);
        SevenTown row = new SevenTown(20);
        row.ring(1);
        row.drop(0, 19);
        Due.text(row, 1, "y:0-a");
        Due.same("from end to end", row.send(0, 0, 19, -1), 19);
        Due.same("the 19th gift", row.send(0, 0, 19, 19), 19);
        Due.same("the 18th gift", row.send(0, 19, 0, 18), 1);
    }

    private static void promise28Refused() {
        Due.promise(28, "NONE: it does not come (i NONE), no such ones, alike, no such gift.");
        SevenTown town = Due.town(5, "ab,bc,cd,bd", "y:t*1000-a");
        Due.same("never comes", town.send(0, 0, 4, -1), -1);
        Due.same("who knows nobody", town.send(0, 4, 0, -1), -1);
        Due.same("gives nothing", town.send(0, 4, 0, 1), -1);
        int[] gifts = {3, 4, 59, 60, 61, -2, -3, Integer.MIN_VALUE, Integer.MAX_VALUE};
        Due.unchanged(town, () -> {
            for (int gift : gifts) {
                Due.same("gift " + gift, town.send(0, 0, 3, gift), -1);
            }
        });
        Due.unchanged(town, () -> {
            for (int gift : new int[] {-1, 0, 1}) {
                Due.same("alike", town.send(0, 2, 2, gift), -1);
                Due.same("no such rule", town.send(1, 0, 3, gift), -1);
                Due.same("no such rule", town.send(-1, 0, 3, gift), -1);
            }
        });
        SevenTown other = Due.town(5, "ab,bc,cd,bd", "y:t*1000-a");
        Due.unchanged(other, () -> {
            for (int one : NOBODY) {
                Due.same("from " + one, other.send(0, one, 0, 0), -1);
                Due.same("to " + one, other.send(0, 0, one, 0), -1);
            }
        });
        Due.unchanged(other, () -> {
            for (int rule : new int[] {2, 5, 6, 32, Integer.MIN_VALUE, Integer.MAX_VALUE}) {
                Due.same("rule " + rule, other.send(rule, 0, 3, 0), -1);
            }
        });
        Due.same("no rule at all", new SevenTown(3).send(0, 0, 1, 0), -1);
    }

    private static void sendByEachLetter() {
        Due.term("Letters: t 1 if that is the one meant, f 1 if that KNOWS the one meant, k how"
                + " many that KNOWS, c how many both KNOW, b how often it was there, a how far"
                + " their numbers are apart (that one's and the one's meant).");
        SevenTown town = Due.town(7, "ab,ac,ad,be,cf,cg,dg,bc");
        Due.same("lowest", Due.text(town, 1, "y:0"), 0);
        Due.same("of several the lowest", town.send(0, 0, 6, 1), 1);
        Due.same("f", Due.text(town, 1, "y:f"), 1);
        Due.same("who knows the one meant", town.send(1, 0, 6, 1), 2);
        Due.same("k", Due.text(town, 1, "y:0-k"), 2);
        Due.same("who knows the fewest", town.send(2, 0, 6, 1), 3);
        Due.same("c", Due.text(town, 1, "y:0-c"), 3);
        Due.same("with the fewest that both know", town.send(3, 0, 6, 1), 3);
        Due.same("t", Due.text(town, 1, "y:t"), 4);
        Due.same("the one meant", town.send(4, 0, 3, 1), 3);
        Due.same("a", Due.text(town, 1, "y:0-a"), 5);
        Due.same("the nearest number", town.send(5, 0, 5, 1), 3);
    }

    private static void howOften() {
        SevenTown town = Due.town(6, "ab,bc,cd,de", "y:0-b");
        Due.same("it was with a once: c is new", town.send(0, 0, 4, 2), 2);
        Due.same("straight on", town.send(0, 0, 4, -1), 4);
        SevenTown star = Due.town(5, "ab,ac,ad,de", "y:b=0?9;y:0-b");
        Due.same("each once, then d, who gives it on", star.send(0, 1, 4, -1), 5);
        Due.same("a again", star.send(0, 1, 4, 3), 0);
        Due.same("anew for each letter", star.send(0, 1, 4, -1), 5);
        Due.same("a has been twice", Due.text(star, 1, "y:b>1?9;y:0-a"), 1);
        Due.same("b gives it back always", star.send(1, 1, 4, -1), 3);
    }

    private static void sixtyGifts() {
        Due.term("It comes, or not by 60 gifts, or if somebody KNOWS nobody.");
        SevenTown town = Due.town(6, "ab,bc,cd,de");
        Due.same("lowest", Due.text(town, 1, "y:0"), 0);
        Due.same("to and fro", town.send(0, 0, 4, -1), -1);
        Due.same("behind 59", town.send(0, 0, 4, 59), 1);
        Due.same("behind 60", town.send(0, 0, 4, 60), 0);
        Due.same("no 61st", town.send(0, 0, 4, 61), -1);
        // b gives to a till it was there too often: that at first is once, each second gift more
        SevenTown late = Due.town(3, "ab,bc");
        Due.same("29 times", Due.text(late, 1, "y:t=1?0-29;y:0-b"), 0);
        Due.same("60 gifts", late.send(0, 0, 2, -1), 60);
        Due.same("the 60th is the one", late.send(0, 0, 2, 60), 2);
        Due.same("30 times", Due.text(late, 1, "y:t=1?0-30;y:0-b"), 1);
        Due.same("62 gifts are too many", late.send(1, 0, 2, -1), -1);
        Due.same("still with a", late.send(1, 0, 2, 60), 0);
        Due.same("28 times", Due.text(late, 1, "y:t=1?0-28;y:0-b"), 2);
        Due.same("58 gifts", late.send(2, 0, 2, -1), 58);
    }

    private static void promise29Comes() {
        Due.promise(29, "COMES (0), GIFTS (1).");
        Due.term("COMES of a RULE: how many of all pairs (from, to, unlike) come; GIFTS of those"
                + " together.");
        SevenTown town = Due.town(5, "ab,bc,cd", "y:0-a");
        Due.same("all of four", town.comes(0, 0), 12);
        Due.same("gifts", town.comes(0, 1), 2 * (1 + 2 + 3 + 1 + 2 + 1));
        Due.same("lowest", Due.text(town, 1, "y:0"), 1);
        Due.same("those that go down, and a to b", town.comes(1, 0), 7);
        Due.same("gifts of those that come", town.comes(1, 1), 1 + 2 + 3 + 1 + 2 + 1 + 1);
        SevenTown alone = Due.town(20, "", "y:1");
        Due.same("nobody knows anybody", alone.comes(0, 0), 0);
        Due.same("no gifts", alone.comes(0, 1), 0);
        alone.ring(1);
        Due.same("round and round downwards", Due.text(alone, 1, "y:b=0?9"), 1);
        Due.same("all come", alone.comes(1, 0), 380);
        SevenTown two = Due.town(2, "ab", "y:0");
        Due.same("both ways", two.comes(0, 0), 2);
        Due.same("a gift each", two.comes(0, 1), 2);
    }

    private static void promise29Refused() {
        Due.promise(29, "NONE: no such ones.");
        SevenTown town = Due.town(4, "ab", "y:0-a");
        Due.unchanged(town, () -> {
            for (int what : new int[] {2, 3, -1, Integer.MIN_VALUE, Integer.MAX_VALUE}) {
                Due.same("comes(0, " + what + ")", town.comes(0, what), -1);
            }
        });
        Due.unchanged(town, () -> {
            for (int rule : new int[] {1, 2, 6, 32, -1, Integer.MIN_VALUE, Integer.MAX_VALUE}) {
                Due.same("comes(" + rule + ", 0)", town.comes(rule, 0), -1);
            }
        });
        Due.same("no rule at all", new SevenTown(3).comes(0, 0), -1);
    }

    private static void promise30Deaths() {
        Due.promise(30, "YEARS go by: DEAD.");
        Due.term("(1) for each by numbers a draw of 100: below DEATH: it dies: all its TIES go,"
                + " its AGE becomes 0 (another one is born with its number; NEEDS stay); else its"
                + " AGE (0 at first) is 1 more.");
        SevenTown town = Due.town(4, "ab,bc,cd,da", "y:0");
        town.need(0, 1, 9);
        Due.same("nobody dies", town.years(0, 0, 3, 1L), 0);
        Due.same("three years old", town.of(0, 3), 3);
        Due.same("ties stay", town.all(3), 4);
        Due.same("all die each year", town.years(0, 100, 30, -5L), 120);
        Due.same("no ties", town.all(3), 0);
        for (int one = 0; one < 4; one++) {
            Due.same("age", town.of(one, 3), 0);
        }
        Due.same("needs stay", town.count(3), 1);
        town.tie(0, 1);
        Due.same("a still needs b", town.value(0), 9);
        SevenTown second = Due.town(3, "ab,bc,ac", "y:0");
        second.years(0, 0, 2, 1L);
        Due.same("one dies", second.years(0, 30, 1, seedFor(1)), 1);
        Due.same("b", second.of(1, 3), 0);
        Due.same("a", second.of(0, 3), 3);
        Due.same("c", second.of(2, 3), 3);
        Due.same("b's ties are gone", Due.knows(second, 1), 0);
        Due.same("others' stay", Due.knows(second, 0), Due.bits(2));
    }

    private static void draws() {
        Due.term("A draw of 100: x, at first the seed, becomes x times 6364136223846793005 and"
                + " 1442695040888963407 (64 bits, going round); then (x shifted right by 33,"
                + " without sign) modulo 100.");
        // x behind seed 0 is 1442695040888963407, shifted by 33 it is 167951807: 7, and then 24
        SevenTown drawn = Due.town(2, "ab", "y:0");
        Due.same("7 is not below 7", drawn.years(0, 7, 1, 0L), 0);
        Due.same("a is 1", drawn.of(0, 3), 1);
        Due.same("7 is below 8", drawn.years(0, 8, 1, 0L), 1);
        Due.same("a is born anew", drawn.of(0, 3), 0);
        Due.same("b is 2", drawn.of(1, 3), 2);
        Due.same("a's tie is gone", drawn.all(3), 0);
        for (int draw : new int[] {0, 1, 50, 98, 99}) {
            SevenTown town = Due.town(2, "ab", "y:0");
            long seed = seedOf(draw);
            town.years(0, draw, 1, seed);
            Due.same(draw + " is not below " + draw, town.of(0, 3), 1);
            town.years(0, draw + 1, 1, seed);
            Due.same(draw + " is below " + (draw + 1), town.of(0, 3), 0);
        }
    }

    /** A seed whose first draw is so much. */
    private static long seedOf(int draw) {
        for (long seed = 0; seed < 100000; seed++) {
            if (dyingOf(draw, seed, 1) == 0 && dyingOf(draw + 1, seed, 1) == 1) {
                return seed;
            }
        }
        throw new IllegalStateException("no seed");
    }

    private static void dyingByOneSeed() {
        Due.term("YEARS (1 .. 30) go by with one seed; DEAD: how many died in them.");
        long[] seeds = {0L, 1L, -1L, Long.MIN_VALUE, Long.MAX_VALUE, 123456789012345L};
        for (long seed : seeds) {
            SevenTown town = Due.town(20, "", "y:0");
            Due.same("one year", town.years(0, 30, 1, seed), dyingOf(30, seed, 20));
            Due.same("two years", town.years(0, 30, 2, seed), dyingOf(30, seed, 40));
            Due.same("thirty years", town.years(0, 30, 30, seed), dyingOf(30, seed, 600));
            Due.same("with the seed anew", town.years(0, 99, 30, seed), dyingOf(99, seed, 600));
            Due.same("one of a hundred", town.years(0, 1, 30, seed), dyingOf(1, seed, 600));
        }
        SevenTown all = Due.town(20, "", "y:1");
        Due.same("all of thirty years", all.years(0, 100, 30, 9L), 600);
        Due.same("none of thirty years", all.years(0, 0, 30, 9L), 0);
        Due.same("30", all.of(19, 3), 30);
        Due.same("one more", all.years(0, 0, 1, 9L), 0);
        Due.same("31", all.of(19, 3), 31);
    }

    private static int dyingOf(int death, long seed, int draws) {
        java.math.BigInteger all = java.math.BigInteger.ONE.shiftLeft(64);
        java.math.BigInteger x = java.math.BigInteger.valueOf(seed).mod(all);
        int dead = 0;
        for (int i = 0; i < draws; i++) {
            x = x.multiply(new java.math.BigInteger("6364136223846793005"))
                    .add(new java.math.BigInteger("1442695040888963407")).mod(all);
            int draw = x.shiftRight(33).mod(java.math.BigInteger.valueOf(100)).intValue();
            dead += draw < death ? 1 : 0;
        }
        return dead;
    }

    /** A seed by which of three that one alone dies below 30. */
    private static long seedFor(int one) {
        for (long seed = 0; seed < 1000; seed++) {
            int ahead = dyingOf(30, seed, one);
            if (ahead == 0 && dyingOf(30, seed, one + 1) == 1 && dyingOf(30, seed, 3) == 1) {
                return seed;
            }
        }
        throw new IllegalStateException("no seed");
    }

    private static void births() {
        Due.term("(2) Each by numbers looks at all it does not KNOW, that have fewer TIES than"
                + " MOST: that with the greatest WORTH (of several the lowest) is taken, if WORTH"
                + " is above 0 and it has fewer TIES than MOST itself; if it has not: if that"
                + " WORTH is greater than the least WORTH of those it KNOWS (of several the"
                + " lowest) and COST together, it drops that and takes the other one (MOST 0:"
                + " nothing).");
        SevenTown town = new SevenTown(4);
        Due.same("one", Due.text(town, 1, "y:1"), 0);
        Due.same("nothing", Due.text(town, 1, "y:0"), 1);
        Due.same("not above 0", town.years(1, 0, 2, 1L), 0);
        Due.same("no ties", town.all(3), 0);
        Due.same("below 0", Due.text(town, 1, "y:0-1"), 2);
        Due.same("not above 0", town.years(2, 0, 2, 1L), 0);
        Due.same("no ties", town.all(3), 0);
        town.years(0, 0, 1, 1L);
        Due.same("a takes b, b takes c, c takes a, d takes a", town.all(3), 4);
        Due.same("a", Due.knows(town, 0), Due.bits(1, 2, 3));
        Due.same("d", Due.knows(town, 3), Due.bits(0));
        town.years(0, 0, 1, 1L);
        Due.same("b takes d, then c takes d", town.all(3), 6);
        SevenTown narrow = new SevenTown(4);
        Due.text(narrow, 1, "y:1");
        narrow.most(0, 0);
        narrow.most(1, 1);
        narrow.years(0, 0, 1, 1L);
        Due.same("a may have none", Due.knows(narrow, 0), 0);
        Due.same("b takes c", Due.knows(narrow, 1), Due.bits(2));
        Due.same("c takes d, b is full", Due.knows(narrow, 2), Due.bits(1, 3));
    }

    private static void asItIsThen() {
        Due.term("All as it is then.");
        SevenTown town = Due.town(3, "", "y:1-k");
        town.years(0, 0, 1, 1L);
        Due.same("a takes b, b takes c, c knows both", Due.knows(town, 1), Due.bits(0, 2));
        Due.same("a has one by then", Due.knows(town, 0), Due.bits(1));
        SevenTown born = Due.town(3, "ab", "y:o");
        born.years(0, 30, 1, seedFor(1));
        Due.same("all deaths come first: a and c are 1, b is 0", Due.knows(born, 0),
                Due.bits(1, 2));
        Due.same("b looks: both are 1, a is lower", Due.knows(born, 1), Due.bits(0));
        SevenTown all = Due.town(3, "ab,bc,ca", "y:1+k");
        Due.same("all die", all.years(0, 100, 1, 3L), 3);
        Due.same("none of the old ties: a takes b, b takes c, c takes a", all.all(3), 3);
        Due.same("no ages", Due.text(all, 1, "y:o"), 1);
        Due.same("all die", all.years(1, 100, 1, 3L), 3);
        Due.same("all are 0", all.all(3), 0);
    }

    private static void birthsByEachLetter() {
        Due.term("Letters: d FAR (0 without a way), k how many that KNOWS, c how many both KNOW,"
                + " o its AGE, r how many more it might KNOW.");
        birth("y:d", "bc,ad,de", Due.bits(3, 4));
        birth("y:1-d", "bc,ad,de", Due.bits(1, 3));
        birth("y:1+k", "bc,cd,ae", Due.bits(2, 4));
        birth("y:1+c", "ab,bd,be,ac,ce", Due.bits(1, 2, 4));
        birth("y:1+c", "ab,be,cd", Due.bits(1, 4));
        nothing("y:c", "bc");
        birth("y:1+r", "bc,bd,ce", Due.bits(3));
        birth("y:o", "", Due.bits(1));
        nothing("y:o-1", "");
        birth("y:1", "", Due.bits(1));
        nothing("y:t+f+b+a", "ab");
        SevenTown old = new SevenTown(4);
        Due.text(old, 1, "y:0");
        Due.text(old, 1, "y:o-9*k");
        old.years(0, 0, 9, 7L);
        old.years(1, 0, 1, 7L);
        Due.same("ten years old: b, c, d are new to those who take them, a is to d",
                Due.knows(old, 0), Due.bits(1, 3));
    }

    private static void lettersNotTold() {
        Due.term("Letters that are not told of what is asked are 0.");
        SevenTown letters = Due.town(4, "bc");
        Due.text(letters, 1, "y:a+f+b+9");
        letters.send(0, 1, 3, -1);
        Due.text(letters, 1, "y:t+f+b+a");
        letters.years(1, 0, 1, 1L);
        Due.same("letters not told of are 0", Due.knows(letters, 0), 0);
        SevenTown after = Due.town(4, "ab,ac,bd,cd");
        Due.text(after, 1, "y:0-d-o-r");
        Due.text(after, 1, "y:d+o+r>0?0-a;y:a");
        after.years(0, 0, 1, 1L);
        Due.same("nor in a letter", after.send(1, 0, 3, 1), 1);
    }

    /** Whom a knows when it has looked: it has room for one more, so that nobody takes it then. */
    private static void birth(String rule, String net, int due) {
        SevenTown town = Due.town(5, net);
        town.most(0, Integer.bitCount(Due.knows(town, 0)) + 1);
        Due.text(town, 1, rule);
        town.years(0, 0, 1, 1L);
        Due.same(rule + " in " + net, Due.knows(town, 0), due);
    }

    private static void nothing(String rule, String net) {
        SevenTown town = Due.town(5, net);
        int ties = town.all(3);
        Due.text(town, 1, rule);
        town.years(0, 0, 1, 1L);
        Due.same(rule + " takes nobody in " + net, town.all(3), ties);
    }

    private static void fullAndCost() {
        Due.term("(2) Each by numbers looks at all it does not KNOW, that have fewer TIES than"
                + " MOST: that with the greatest WORTH (of several the lowest) is taken, if WORTH"
                + " is above 0 and it has fewer TIES than MOST itself; if it has not: if that"
                + " WORTH is greater than the least WORTH of those it KNOWS (of several the"
                + " lowest) and COST together, it drops that and takes the other one (MOST 0:"
                + " nothing).");
        SevenTown town = Due.town(5, "ab,cd,ce");
        for (int i = 1; i < 5; i++) {
            town.most(i, i == 2 ? 4 : 2);
        }
        town.most(0, 1);
        Due.text(town, 1, "y:k*3-9");
        town.cost(3);
        town.years(0, 0, 1, 1L);
        Due.same("-3 is not greater than -6 and 3", Due.knows(town, 0), Due.bits(1));
        town.cost(2);
        town.years(0, 0, 1, 1L);
        Due.same("b goes for c, though c is worth less than 0", Due.knows(town, 0), Due.bits(2));
        Due.same("b", Due.knows(town, 1) & 1, 0);
        for (int cost = 0; cost < 2; cost++) {
            SevenTown far = Due.town(3, "ab,bc", "y:d");
            far.most(0, 1);
            far.most(1, 2);
            far.cost(cost);
            far.years(0, 0, 1, 1L);
            Due.same("2 away is more than 1 and 0, not than 1 and 1", Due.knows(far, 0),
                    cost == 0 ? Due.bits(2) : Due.bits(1));
        }
        SevenTown same = Due.town(3, "ab", "y:5");
        same.most(0, 1);
        same.most(1, 1);
        same.most(2, 1);
        same.years(0, 0, 1, 1L);
        Due.same("5 is not greater than 5", Due.knows(same, 0), Due.bits(1));
    }

    private static void fullAndSeveral() {
        SevenTown lowest = Due.town(5, "ab,ac");
        lowest.most(0, 2);
        lowest.most(4, 1);
        lowest.most(1, 1);
        lowest.most(2, 2);
        lowest.most(3, 0);
        Due.text(lowest, 1, "y:1-k");
        lowest.years(0, 0, 1, 1L);
        Due.same("of several the lowest goes", Due.knows(lowest, 0), Due.bits(2, 4));
        SevenTown first = Due.town(4, "ab,ac,bd", "y:r");
        first.most(0, 2);
        first.most(1, 2);
        first.most(3, 1);
        first.cost(4);
        first.years(0, 0, 1, 1L);
        Due.same("of a and d, who are worth 0, a goes for c: 6 is more than 4, then 5 too",
                Due.knows(first, 1), Due.bits(2));
        Due.same("and b goes for c", Due.knows(first, 3), Due.bits(2));
        SevenTown middle = Due.town(6, "ab,ac,ad,be,bf,de");
        middle.most(0, 3);
        middle.most(4, 9);
        middle.most(5, 1);
        middle.most(1, 3);
        middle.most(3, 2);
        Due.text(middle, 1, "y:k*10-9");
        middle.cost(9);
        middle.years(0, 0, 1, 1L);
        Due.same("c, with one tie, goes for e, with two", Due.knows(middle, 0), Due.bits(1, 3, 4));
    }

    private static void mostOfNothing() {
        SevenTown none = new SevenTown(3);
        for (int i = 0; i < 3; i++) {
            none.most(i, 0);
        }
        Due.text(none, 1, "y:9");
        Due.same("most 0: nothing", none.years(0, 0, 30, 1L), 0);
        Due.same("no ties", none.all(3), 0);
        none.most(2, 1);
        none.years(0, 0, 1, 1L);
        Due.same("nobody that c might take", none.all(3), 0);
        none.most(0, 1);
        none.years(0, 0, 1, 1L);
        Due.same("a takes c", Due.knows(none, 0), Due.bits(2));
        Due.same("b has none still", Due.knows(none, 1), 0);
    }

    private static void promise30Refused() {
        Due.promise(30, "NONE: no such RULE, out of bounds.");
        Due.term("A YEAR by a RULE, a DEATH (0 .. 100) and a seed:");
        SevenTown town = Due.town(4, "ab", "y:1");
        Due.unchanged(town, () -> {
            for (int rule : new int[] {1, 2, 6, 32, -1, Integer.MIN_VALUE, Integer.MAX_VALUE}) {
                Due.same("rule " + rule, town.years(rule, 0, 1, 1L), -1);
            }
        });
        Due.unchanged(town, () -> {
            for (int death : new int[] {-1, 101, 200, Integer.MIN_VALUE, Integer.MAX_VALUE}) {
                Due.same("death " + death, town.years(0, death, 1, 1L), -1);
            }
        });
        Due.unchanged(town, () -> {
            for (int n : new int[] {0, -1, 31, 32, Integer.MIN_VALUE, Integer.MAX_VALUE}) {
                Due.same("years " + n, town.years(0, 0, n, 1L), -1);
            }
        });
        Due.same("one year", town.years(0, 100, 1, 1L), 4);
        Due.same("30 years", town.years(0, 0, 30, 1L), 0);
        Due.same("30 years old", town.of(0, 3), 30);
        Due.same("no rule at all", new SevenTown(3).years(0, 0, 1, 1L), -1);
    }
}
