/** Promises 28 to 30: what rules are worth, letters, years. */
public final class RulesTest {
    private RulesTest() {
    }

    public static void main(String[] args) {
        worth();
        bounds();
        conditions();
        send();
        sendByEachLetter();
        sixtyGifts();
        comes();
        deaths();
        births();
        birthsByEachLetter();
        full();
        refused();
        Due.report();
    }

    /**
     * One knows two: b, whose number is 2 away from d's, and c (1), so that a rule
     * "y:a=2?SUM;y:N" sends to b just if the sum is at least N. (No N is above 1,000,000.)
     */
    private static void sum(String sum, int due) {
        sumIs(sum, due, true);
        if (due < 1000000) {
            sumIs(sum, due + 1, false);
        }
    }

    private static void sumIs(String sum, int least, boolean due) {
        SevenTown town = Due.town(4, "ab,ac,bd,cd");
        String bound = least >= 0 ? "" + least : "0-" + -least;
        if (least > 9999) {
            bound = least / 1000 + "*1000+" + least % 1000;
        } else if (least < -9999) {
            bound = "0-" + -least / 1000 + "*1000-" + -least % 1000;
        }
        int rule = Due.text(town, 1, "y:a=2?" + sum + ";y:" + bound);
        Due.same("rule of " + sum, rule, 0);
        Due.same(sum + " >= " + least, town.send(0, 0, 3, 1), due ? 1 : 2);
    }

    private static void worth() {
        sum("7", 7);
        sum("1+2*3", 7);
        sum("[1+2]*3", 9);
        sum("9-3-2", 4);
        sum("9-[3-2]", 8);
        sum("24/4/3", 2);
        sum("24/[4/2]", 12);
        sum("2*3+4*5", 26);
        sum("7/2", 3);
        sum("[0-7]/2", -3);
        sum("7/[0-2]", -3);
        sum("5/0", 0);
        sum("5/0+3", 3);
        sum("5/[2-2]*7", 0);
        sum("0007", 7);
        sum(" 1 + 2 ", 3);
        sum("t", 0);
        sum("f", 1);
        sum("k", 2);
        sum("c", 0);
        sum("a", 2);
        sum("b", 0);
        sum("d+o+r", 0);
    }

    private static void bounds() {
        sum("9999*100", 999900);
        sum("9999*1000", 1000000);
        sum("9999*9999-1", 999999);
        sum("9999*9999+1", 1000000);
        sum("0-9999*9999", -1000000);
        sum("0-9999*9999-1", -1000000);
        sum("0-9999*9999+1", -999999);
        sum("9999*9999*[0-9999]", -1000000);
        sum("9999*9999/1000", 1000);
        sum("9999*9999*0", 0);
        sum("9999*9999+9999*9999-9999*9999", 0);
    }

    private static void conditions() {
        clauses("1=1?5;y:9", 5);
        clauses("1=2?5;y:9", 9);
        clauses("1<2?5", 5);
        clauses("2<2?5;y:7", 7);
        clauses("3>2?5", 5);
        clauses("2>2?5", 0);
        clauses("1=2?5", 0);
        clauses("1=2?5;y:2=1?7", 0);
        clauses("!1=2?5", 5);
        clauses("!!1=2?5", 0);
        clauses("1=2&1=1?5;y:6", 6);
        clauses("1=2|1=1?5;y:6", 5);
        clauses("1=1|1=1&1=2?5;y:6", 5);
        clauses("(1=1|1=1)&1=2?5;y:6", 6);
        clauses("!1=1|1=1?5;y:6", 5);
        clauses("!(1=1|1=1)?5;y:6", 6);
        clauses("!1<2?5;y:6", 6);
        clauses("!2>1?5;y:6", 6);
        clauses("!!(1<2&2>1)?5;y:6", 5);
        clauses("1=2&1=1|1=1?5;y:6", 5);
        clauses("1+1=2&[3]*2>5?1=1;y:6".replace("1=1;", "4;"), 4);
        clauses("4;y:6", 4);
        clauses("1=2?1;y:1=3?2;y:1=1?3;y:4", 3);
    }

    /** What the clauses are worth, told by f's of the only one known. */
    private static void clauses(String clauses, int due) {
        SevenTown town = Due.town(4, "ab,ac,bd,cd");
        Due.same("rule " + clauses, Due.text(town, 1, "y:!a=2?" + due + ";y:" + clauses), 0);
        Due.same(clauses + " is not less", town.send(0, 0, 3, 1), 1);
        Due.same("rule " + clauses, Due.text(town, 1, "y:!a=2?" + (due + 1) + ";y:" + clauses), 1);
        Due.same(clauses + " is not more", town.send(1, 0, 3, 1), 2);
    }

    private static void send() {
        SevenTown town = Due.town(6, "ab,bc,cd,bd");
        Due.same("greedy", Due.text(town, 1, "y:t*1000-a"), 0);
        Due.same("a to d", town.send(0, 0, 3, -1), 2);
        Due.same("from", town.send(0, 0, 3, 0), 0);
        Due.same("behind one", town.send(0, 0, 3, 1), 1);
        Due.same("behind two", town.send(0, 0, 3, 2), 3);
        Due.same("no third gift", town.send(0, 0, 3, 3), -1);
        Due.same("no such gift", town.send(0, 0, 3, -2), -1);
        Due.same("no such gift", town.send(0, 0, 3, Integer.MAX_VALUE), -1);
        Due.same("alike", town.send(0, 2, 2, -1), -1);
        Due.same("alike", town.send(0, 2, 2, 0), -1);
        Due.same("no such one", town.send(0, 0, 6, -1), -1);
        Due.same("no such one", town.send(0, -1, 0, 0), -1);
        Due.same("no such rule", town.send(1, 0, 3, -1), -1);
        Due.same("no such rule", town.send(-1, 0, 3, 0), -1);
        Due.same("who knows nobody", town.send(0, 5, 0, -1), -1);
        Due.same("has it at first", town.send(0, 5, 0, 0), 5);
        Due.same("gives nothing", town.send(0, 5, 0, 1), -1);
        Due.same("never comes", town.send(0, 0, 5, -1), -1);
    }

    private static void sendByEachLetter() {
        SevenTown town = Due.town(7, "ab,ac,ad,be,cf,cg,dg,bc");
        Due.same("lowest", Due.text(town, 1, "y:0"), 0);
        Due.same("of several the lowest", town.send(0, 0, 6, 1), 1);
        Due.same("f", Due.text(town, 1, "y:f"), 1);
        Due.same("who knows the one meant", town.send(1, 0, 6, 1), 2);
        Due.same("k", Due.text(town, 1, "y:0-k"), 2);
        Due.same("who knows the fewest", town.send(2, 0, 6, 1), 3);
        Due.same("c", Due.text(town, 1, "y:0-c"), 3);
        Due.same("with the fewest that both know", town.send(3, 0, 6, 1), 3);
        Due.same("t", Due.text(town, 1, "y:t"), 4);
        Due.same("the one meant", town.send(4, 0, 3, 1), 3);
        Due.same("a", Due.text(town, 1, "y:0-a"), 5);
        Due.same("the nearest number", town.send(5, 0, 5, 1), 3);
    }

    private static void sixtyGifts() {
        SevenTown town = Due.town(6, "ab,bc,cd,de");
        Due.same("lowest", Due.text(town, 1, "y:0"), 0);
        Due.same("to and fro", town.send(0, 0, 4, -1), -1);
        Due.same("behind 59", town.send(0, 0, 4, 59), 1);
        Due.same("behind 60", town.send(0, 0, 4, 60), 0);
        Due.same("no 61st", town.send(0, 0, 4, 61), -1);
        Due.same("least often", Due.text(town, 1, "y:0-b"), 1);
        Due.same("it was with a once: c is new", town.send(1, 0, 4, 2), 2);
        Due.same("straight on", town.send(1, 0, 4, -1), 4);
        // b gives to a till it was there too often: that at first is once, each second gift more
        SevenTown late = Due.town(3, "ab,bc");
        Due.same("29 times", Due.text(late, 1, "y:t=1?0-29;y:0-b"), 0);
        Due.same("60 gifts", late.send(0, 0, 2, -1), 60);
        Due.same("the 60th is the one", late.send(0, 0, 2, 60), 2);
        Due.same("30 times", Due.text(late, 1, "y:t=1?0-30;y:0-b"), 1);
        Due.same("62 gifts are too many", late.send(1, 0, 2, -1), -1);
        Due.same("still with a", late.send(1, 0, 2, 60), 0);
        Due.same("28 times", Due.text(late, 1, "y:t=1?0-28;y:0-b"), 2);
        Due.same("58 gifts", late.send(2, 0, 2, -1), 58);
    }

    private static void comes() {
        SevenTown town = Due.town(5, "ab,bc,cd");
        Due.same("greedy", Due.text(town, 1, "y:0-a"), 0);
        Due.same("all of four", town.comes(0, 0), 12);
        Due.same("gifts", town.comes(0, 1), 2 * (1 + 2 + 3 + 1 + 2 + 1));
        Due.same("lowest", Due.text(town, 1, "y:0"), 1);
        Due.same("those that go down, and a to b", town.comes(1, 0), 7);
        Due.same("gifts of those that come", town.comes(1, 1), 1 + 2 + 3 + 1 + 2 + 1 + 1);
        Due.same("no such what", town.comes(0, 2), -1);
        Due.same("no such what", town.comes(0, -1), -1);
        Due.same("no such rule", town.comes(2, 0), -1);
        Due.same("no such rule", town.comes(-1, 0), -1);
    }

    private static void deaths() {
        SevenTown town = Due.town(4, "ab,bc,cd,da");
        Due.text(town, 1, "y:0");
        town.need(0, 1, 9);
        Due.same("nobody dies", town.years(0, 0, 3, 1L), 0);
        Due.same("three years old", town.of(0, 3), 3);
        Due.same("ties stay", town.all(3), 4);
        // x behind seed 0 is 1442695040888963407, shifted by 33 it is 167951807: 7, and then 24
        SevenTown drawn = Due.town(2, "ab");
        Due.text(drawn, 1, "y:0");
        Due.same("7 is not below 7", drawn.years(0, 7, 1, 0L), 0);
        Due.same("a is 1", drawn.of(0, 3), 1);
        Due.same("7 is below 8", drawn.years(0, 8, 1, 0L), 1);
        Due.same("a is born anew", drawn.of(0, 3), 0);
        Due.same("b is 2", drawn.of(1, 3), 2);
        Due.same("a's tie is gone", drawn.all(3), 0);
        SevenTown second = Due.town(3, "ab,bc,ac");
        Due.text(second, 1, "y:0");
        Due.same("one dies", second.years(0, 30, 1, seedFor(1)), 1);
        Due.same("b", second.of(1, 3), 0);
        Due.same("b's ties are gone", Due.knows(second, 1), 0);
        Due.same("others' stay", Due.knows(second, 0), Due.bits(2));
        Due.same("all die each year", town.years(0, 100, 30, -5L), 120);
        Due.same("no ties", town.all(3), 0);
        Due.same("age", town.of(3, 3), 0);
        Due.same("needs stay", town.count(3), 1);
        SevenTown seeded = new SevenTown(20);
        Due.text(seeded, 1, "y:0");
        long[] seeds = {0L, 1L, -1L, Long.MIN_VALUE, Long.MAX_VALUE, 123456789012345L};
        for (long seed : seeds) {
            Due.same("one seed for all years", seeded.years(0, 30, 30, seed),
                    dyingOf(30, seed, 600));
        }
    }

    private static int dyingOf(int death, long seed, int draws) {
        java.math.BigInteger all = java.math.BigInteger.ONE.shiftLeft(64);
        java.math.BigInteger x = java.math.BigInteger.valueOf(seed).mod(all);
        int dead = 0;
        for (int i = 0; i < draws; i++) {
            x = x.multiply(new java.math.BigInteger("6364136223846793005"))
                    .add(new java.math.BigInteger("1442695040888963407")).mod(all);
            int draw = x.shiftRight(33).mod(java.math.BigInteger.valueOf(100)).intValue();
            dead += draw < death ? 1 : 0;
        }
        return dead;
    }

    /** A seed by which of three that one alone dies below 30. */
    private static long seedFor(int one) {
        for (long seed = 0; seed < 1000; seed++) {
            int ahead = dyingOf(30, seed, one);
            if (ahead == 0 && dyingOf(30, seed, one + 1) == 1 && dyingOf(30, seed, 3) == 1) {
                return seed;
            }
        }
        throw new IllegalStateException("no seed");
    }

    private static void births() {
        SevenTown town = new SevenTown(4);
        Due.same("one", Due.text(town, 1, "y:1"), 0);
        Due.same("nothing", Due.text(town, 1, "y:0"), 1);
        Due.same("not above 0", town.years(1, 0, 2, 1L), 0);
        Due.same("no ties", town.all(3), 0);
        town.years(0, 0, 1, 1L);
        Due.same("a takes b, b takes c, c takes a, d takes a", town.all(3), 4);
        Due.same("a", Due.knows(town, 0), Due.bits(1, 2, 3));
        Due.same("d", Due.knows(town, 3), Due.bits(0));
        town.years(0, 0, 1, 1L);
        Due.same("b takes d, then c takes d", town.all(3), 6);
        SevenTown narrow = new SevenTown(4);
        Due.text(narrow, 1, "y:1");
        narrow.most(0, 0);
        narrow.most(1, 1);
        narrow.years(0, 0, 1, 1L);
        Due.same("a may have none", Due.knows(narrow, 0), 0);
        Due.same("b takes c", Due.knows(narrow, 1), Due.bits(2));
        Due.same("c takes d, b is full", Due.knows(narrow, 2), Due.bits(1, 3));
    }

    private static void birthsByEachLetter() {
        birth("y:d", "bc,ad,de", Due.bits(3, 4));
        birth("y:1-d", "bc,ad,de", Due.bits(1, 3));
        birth("y:1+k", "bc,cd,ae", Due.bits(2, 4));
        birth("y:1+c", "ab,bd,be,ac,ce", Due.bits(1, 2, 4));
        nothing("y:c", "bc");
        birth("y:1+r", "bc,bd,ce", Due.bits(3));
        birth("y:o", "", Due.bits(1));
        nothing("y:o-1", "");
        birth("y:1", "", Due.bits(1));
        nothing("y:t+f+b+a", "ab");
        SevenTown old = new SevenTown(4);
        Due.text(old, 1, "y:0");
        Due.text(old, 1, "y:o-9*k");
        old.years(0, 0, 9, 7L);
        old.years(1, 0, 1, 7L);
        Due.same("ten years old: b, c, d are new to those who take them, a is to d",
                Due.knows(old, 0), Due.bits(1, 3));
        SevenTown letters = Due.town(4, "bc");
        Due.text(letters, 1, "y:a+f+b+9");
        letters.send(0, 1, 3, -1);
        Due.text(letters, 1, "y:t+f+b+a");
        letters.years(1, 0, 1, 1L);
        Due.same("letters not told of are 0", Due.knows(letters, 0), 0);
        SevenTown after = Due.town(4, "ab,ac,bd,cd");
        Due.text(after, 1, "y:0-d-o-r");
        Due.text(after, 1, "y:d+o+r>0?0-a;y:a");
        after.years(0, 0, 1, 1L);
        Due.same("nor in a letter", after.send(1, 0, 3, 1), 1);
    }

    /** Whom a knows when it has looked: it has room for one more, so that nobody takes it then. */
    private static void birth(String rule, String net, int due) {
        SevenTown town = Due.town(5, net);
        town.most(0, Integer.bitCount(Due.knows(town, 0)) + 1);
        Due.text(town, 1, rule);
        town.years(0, 0, 1, 1L);
        Due.same(rule + " in " + net, Due.knows(town, 0), due);
    }

    private static void nothing(String rule, String net) {
        SevenTown town = Due.town(5, net);
        int ties = town.all(3);
        Due.text(town, 1, rule);
        town.years(0, 0, 1, 1L);
        Due.same(rule + " takes nobody in " + net, town.all(3), ties);
    }

    private static void full() {
        SevenTown town = Due.town(5, "ab,cd,ce");
        for (int i = 1; i < 5; i++) {
            town.most(i, i == 2 ? 4 : 2);
        }
        town.most(0, 1);
        Due.text(town, 1, "y:k*3-9");
        town.cost(3);
        town.years(0, 0, 1, 1L);
        Due.same("-3 is not greater than -6 and 3", Due.knows(town, 0), Due.bits(1));
        town.cost(2);
        town.years(0, 0, 1, 1L);
        Due.same("b goes for c, though c is worth less than 0", Due.knows(town, 0), Due.bits(2));
        Due.same("b", Due.knows(town, 1) & 1, 0);
        SevenTown lowest = Due.town(5, "ab,ac");
        lowest.most(0, 2);
        lowest.most(4, 1);
        lowest.most(1, 1);
        lowest.most(2, 2);
        lowest.most(3, 0);
        Due.text(lowest, 1, "y:1-k");
        lowest.years(0, 0, 1, 1L);
        Due.same("of several the lowest goes", Due.knows(lowest, 0), Due.bits(2, 4));
        SevenTown middle = Due.town(6, "ab,ac,ad,be,bf,de");
        middle.most(0, 3);
        middle.most(4, 9);
        middle.most(5, 1);
        middle.most(1, 3);
        middle.most(3, 2);
        Due.text(middle, 1, "y:k*10-9");
        middle.cost(9);
        middle.years(0, 0, 1, 1L);
        Due.same("c, with one tie, goes for e, with two", Due.knows(middle, 0), Due.bits(1, 3, 4));
        SevenTown none = new SevenTown(3);
        for (int i = 0; i < 3; i++) {
            none.most(i, 0);
        }
        Due.text(none, 1, "y:9");
        Due.same("most 0: nothing", none.years(0, 0, 30, 1L), 0);
        Due.same("no ties", none.all(3), 0);
    }

    private static void refused() {
        SevenTown town = Due.town(4, "ab");
        Due.text(town, 1, "y:1");
        Due.same("no such rule", town.years(1, 0, 1, 1L), -1);
        Due.same("no such rule", town.years(-1, 0, 1, 1L), -1);
        Due.same("death below", town.years(0, -1, 1, 1L), -1);
        Due.same("death above", town.years(0, 101, 1, 1L), -1);
        Due.same("no years", town.years(0, 0, 0, 1L), -1);
        Due.same("31 years", town.years(0, 0, 31, 1L), -1);
        Due.same("nothing changed", town.all(3), 1);
        Due.same("nobody older", town.of(0, 3), 0);
        Due.same("30 years", town.years(0, 0, 30, 1L), 0);
        Due.same("30 years old", town.of(0, 3), 30);
    }
}
