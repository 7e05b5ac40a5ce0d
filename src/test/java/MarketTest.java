import java.util.Random;

/** Promises 20 to 27, and the terms of needs, values, gains, changes, turns. */
public final class MarketTest {
    private static final int[] NOBODY = {4, 5, 20, 32, 36, Integer.MAX_VALUE, -1, -2, -32,
        Integer.MIN_VALUE};

    private MarketTest() {
    }

    public static void main(String[] args) {
        promise20Need();
        promise20RefusedNeed();
        promise20Sixty();
        promise21Value();
        promise22Cost();
        promise23Gain();
        promise23Hidden();
        promise23Most();
        gainWithDrops();
        promise24Change();
        promise24Refused();
        leastChanges();
        promise25Best();
        bestOfSeveral();
        bestPaysNothing();
        promise26Turn();
        promise26Ring();
        fortyTurns(139, 39);
        fortyTurns(522, 40);
        fortyTurns(2972, 41);
        fortyTurns(2122, 42);
        fortyTurns(495, 44);
        promise27Stable();
        Due.report();
    }

    private static void promise20Need() {
        Due.promise(20, "A NEED (0: it is gone).");
        Due.term("NEEDS (60 at most): one needs another one so much (1 .. 99); anew instead of"
                + " that ahead.");
        SevenTown town = Due.town(4, "ab,bc");
        Due.yes("the least", town.need(0, 1, 1));
        Due.same("1", town.value(0), 1);
        Due.same("b needs nobody", town.value(1), 0);
        Due.same("one need", town.count(3), 1);
        Due.yes("the most, anew", town.need(0, 1, 99));
        Due.same("not both", town.value(0), 99);
        Due.same("one need still", town.count(3), 1);
        Due.yes("the other way", town.need(1, 0, 5));
        Due.same("two needs", town.count(3), 2);
        Due.yes("gone", town.need(0, 1, 0));
        Due.same("nothing", town.value(0), 0);
        Due.same("b's stays", town.value(1), 5);
        Due.same("one need", town.count(3), 1);
        Due.yes("one that is not there is gone", town.need(0, 1, 0));
        Due.same("one need", town.count(3), 1);
        Due.yes("there again", town.need(0, 1, 7));
        Due.same("7", town.value(0), 7);
        SevenTown great = new SevenTown(20);
        Due.yes("the last two", great.need(19, 18, 99));
        great.tie(19, 18);
        Due.same("the last one", great.value(19), 99);
    }

    private static void promise20RefusedNeed() {
        Due.promise(20, "False: no such ones, alike, out of bounds, there are 60.");
        SevenTown town = Due.town(4, "ab,bc");
        town.need(0, 1, 9);
        Due.refused(town, "alike", () -> town.need(1, 1, 5));
        Due.refused(town, "alike, to be gone", () -> town.need(1, 1, 0));
        Due.unchanged(town, () -> {
            for (int one : NOBODY) {
                Due.no("need(" + one + ", 0, 5)", town.need(one, 0, 5));
                Due.no("need(0, " + one + ", 5)", town.need(0, one, 5));
                Due.no("need(0, " + one + ", 0)", town.need(0, one, 0));
            }
        });
        Due.unchanged(town, () -> {
            for (int much : new int[] {-1, -99, 100, 101, Integer.MIN_VALUE, Integer.MAX_VALUE}) {
                Due.no("need(0, 1, " + much + ")", town.need(0, 1, much));
                Due.no("need(0, 2, " + much + ")", town.need(0, 2, much));
            }
        });
    }

    private static void promise20Sixty() {
        Due.promise(20, "False: no such ones, alike, out of bounds, there are 60.");
        SevenTown town = new SevenTown(20);
        int made = 0;
        for (int i = 0; i < 20; i++) {
            for (int j = 1; j <= 3; j++) {
                Due.yes("sixty", town.need(i, (i + j) % 20, 99));
                made++;
                Due.same("so many", town.count(3), made);
            }
        }
        Due.refused(town, "a 61st", () -> town.need(0, 10, 1));
        Due.yes("anew instead", town.need(0, 1, 1));
        Due.yes("none that is not there is gone", town.need(0, 10, 0));
        Due.same("60", town.count(3), 60);
        Due.yes("one gone", town.need(0, 2, 0));
        Due.same("59", town.count(3), 59);
        Due.yes("a 60th again", town.need(0, 10, 1));
        Due.no("a 61st again", town.need(0, 2, 1));
        town.tie(0, 1);
        town.tie(0, 10);
        town.tie(0, 2);
        Due.same("1 anew, 1 more, the 61st not", town.value(0), 1 + 1);
    }

    private static void promise21Value() {
        Due.promise(21, "VALUE.");
        Due.term("VALUE of one: for each of its NEEDS that much by 2 to the (FAR less 1), cut (0"
                + " without a way), together.");
        SevenTown town = Due.town(6, "ab,bc,cd,de");
        Due.same("no needs", town.value(0), 0);
        town.need(0, 5, 99);
        Due.same("no way", town.value(0), 0);
        town.need(0, 1, 9);
        town.need(0, 2, 9);
        town.need(0, 3, 7);
        town.need(0, 4, 7);
        Due.same("each cut", town.value(0), 9 + 4 + 1 + 0);
        town.need(0, 4, 8);
        Due.same("an eighth of eight", town.value(0), 9 + 4 + 1 + 1);
        Due.same("needs are of one", town.value(1), 0);
        SevenTown row = new SevenTown(20);
        row.ring(1);
        row.drop(0, 19);
        int[] due = {99, 49, 24, 12, 6, 3, 1, 0};
        for (int far = 1; far < 20; far++) {
            row.need(0, far, 99);
            Due.same("99, " + far + " away", row.value(0), far <= due.length ? due[far - 1] : 0);
            row.need(0, far, 0);
        }
        SevenTown near = new SevenTown(20);
        near.most(0, 9);
        for (int i = 1; i < 20; i++) {
            near.tie(i < 10 ? 0 : i - 9, i);
            near.need(0, i, 99);
        }
        Due.same("nine 1 away, nine 2, one 3", near.value(0), 9 * 99 + 9 * 49 + 24);
        Due.promise(21, "NONE: no such one.");
        SevenTown four = Due.town(4, "ab");
        four.need(0, 1, 9);
        Due.unchanged(four, () -> {
            for (int one : NOBODY) {
                Due.same("value(" + one + ")", four.value(one), -1);
            }
        });
    }

    private static void promise22Cost() {
        Due.promise(22, "COST.");
        Due.term("COST (0 .. 99; 0 at first).");
        SevenTown town = new SevenTown(4);
        Due.same("at first", town.count(4), 0);
        for (int v : new int[] {99, 0, 1, 98}) {
            Due.yes("cost " + v, town.cost(v));
            Due.same("cost", town.count(4), v);
        }
        Due.promise(22, "False: out of bounds.");
        Due.unchanged(town, () -> {
            for (int v : new int[] {-1, -99, 100, 101, Integer.MIN_VALUE, Integer.MAX_VALUE}) {
                Due.no("cost(" + v + ")", town.cost(v));
            }
        });
    }

    /** A row of four, of whom the ends need each other. */
    private static SevenTown ends() {
        SevenTown town = Due.town(4, "ab,bc,cd");
        town.need(0, 3, 40);
        town.need(3, 0, 20);
        return town;
    }

    private static void promise23Gain() {
        Due.promise(23, "GAIN of the first (side 0), of the one taken (1) by a CHANGE (nobody"
                + " dropped: NONE).");
        SevenTown town = ends();
        Due.same("first", town.gain(0, -1, 3, -1, 0), 30);
        Due.same("taken", town.gain(0, -1, 3, -1, 1), 15);
        Due.same("first", town.gain(3, -1, 0, -1, 0), 15);
        Due.same("taken", town.gain(3, -1, 0, -1, 1), 30);
        Due.same("nobody needs c", town.gain(0, -1, 2, -1, 1), 0);
        Due.same("drops and takes", town.gain(0, 1, 3, -1, 0), 30);
        Due.same("both drop", town.gain(0, 1, 3, 2, 1), 15);
        Due.same("nothing is changed", Due.knows(town, 0), Due.bits(1));
        Due.same("nothing is changed", Due.knows(town, 3), Due.bits(2));
        Due.same("nothing is changed", town.all(3), 3);
    }

    private static void promise23Hidden() {
        Due.promise(23, "HIDDEN: it can't be, no such ones.");
        Due.term("A CHANGE by one: it drops one that it knows, or nobody; it takes one it does"
                + " not know, not itself, who drops one it knows, or nobody.");
        SevenTown town = ends();
        Due.unchanged(town, () -> {
            hidden(town, 0, -1, 0, -1);
            hidden(town, 3, -1, 3, -1);
            hidden(town, 0, -1, 1, -1);
            hidden(town, 0, 1, 1, -1);
            hidden(town, 0, 2, 3, -1);
            hidden(town, 0, 3, 3, -1);
            hidden(town, 0, 0, 3, -1);
            hidden(town, 0, -1, 3, 1);
            hidden(town, 0, -1, 3, 3);
            hidden(town, 0, -1, 3, 0);
            hidden(town, -1, -1, 3, -1);
            hidden(town, 0, -1, -1, -1);
            hidden(town, -1, -1, -1, -1);
            hidden(town, 0, -2, 3, -1);
            hidden(town, 0, -1, 3, -2);
            for (int one : NOBODY) {
                hidden(town, one, -1, 3, -1);
                hidden(town, 0, -1, one, -1);
                if (one != -1) {
                    hidden(town, 0, one, 3, -1);
                    hidden(town, 0, -1, 3, one);
                    hidden(town, 1, one, 3, -1);
                    hidden(town, 3, -1, 1, one);
                }
            }
        });
        Due.unchanged(town, () -> {
            for (int side : new int[] {2, 3, -1, Integer.MIN_VALUE, Integer.MAX_VALUE}) {
                Due.same("side " + side, town.gain(0, -1, 3, -1, side), -1000000);
            }
        });
    }

    private static void hidden(SevenTown town, int one, int drops, int takes, int theirs) {
        String change = "(" + one + ", " + drops + ", " + takes + ", " + theirs + ")";
        for (int side = 0; side < 2; side++) {
            Due.same("gain" + change, town.gain(one, drops, takes, theirs, side), -1000000);
        }
        Due.no("change" + change, town.change(one, drops, takes, theirs));
    }

    private static void promise23Most() {
        Due.promise(23, "HIDDEN: it can't be, no such ones.");
        Due.term("It can be, if nobody has more than MOST then.");
        SevenTown town = ends();
        town.most(0, 1);
        Due.unchanged(town, () -> {
            hidden(town, 0, -1, 3, -1);
            hidden(town, 3, -1, 0, -1);
            hidden(town, 0, -1, 3, 2);
        });
        Due.same("full but drops", town.gain(0, 1, 3, -1, 0), 30);
        Due.same("full but drops, the other way", town.gain(3, -1, 0, 1, 1), 30);
        town.most(3, 1);
        Due.unchanged(town, () -> hidden(town, 0, 1, 3, -1));
        Due.same("both drop", town.gain(0, 1, 3, 2, 1), 15);
        Due.same("both drop", town.gain(0, 1, 3, 2, 0), 30);
        town.most(0, 2);
        Due.same("the other drops", town.gain(0, -1, 3, 2, 1), 15);
        SevenTown none = new SevenTown(3);
        none.most(2, 0);
        Due.unchanged(none, () -> {
            hidden(none, 0, -1, 2, -1);
            hidden(none, 2, -1, 0, -1);
        });
        Due.same("one may be, of two alone", none.gain(0, -1, 1, -1, 0), 0);
    }

    private static void gainWithDrops() {
        Due.term("GAIN of each of both who tie: its VALUE behind it less that ahead, less COST if"
                + " it drops one.");
        SevenTown town = ends();
        town.need(0, 1, 10);
        town.cost(7);
        Due.same("no drop, no cost", town.gain(0, -1, 3, -1, 0), 30);
        Due.same("b is three away then", town.gain(0, 1, 3, -1, 0), 40 + 2 - 20 - 7);
        Due.same("the other pays nothing", town.gain(0, 1, 3, -1, 1), 15);
        Due.same("the other pays", town.gain(0, -1, 3, 2, 1), 8);
        Due.same("the first pays nothing", town.gain(0, -1, 3, 2, 0), 30);
        Due.same("b is cut off then", town.gain(0, 1, 3, 2, 0), 40 - 20 - 7);
        SevenTown shared = Due.town(4, "ac,bc");
        shared.need(0, 1, 8);
        shared.need(0, 2, 3);
        Due.same("both drop the same one", shared.gain(0, 2, 1, 2, 0), 8 - 4 - 3);
        Due.same("nothing is changed", Due.knows(shared, 2), Due.bits(0, 1));
        SevenTown worse = Due.town(4, "ac,bc");
        worse.need(0, 2, 9);
        Due.same("less than nothing", worse.gain(0, 2, 1, 2, 0), -9);
        worse.cost(99);
        Due.same("and the cost", worse.gain(0, 2, 1, 2, 0), -108);
        Due.same("the cost alone", worse.gain(0, 2, 1, 2, 1), -99);
    }

    private static void promise24Change() {
        Due.promise(24, "A CHANGE that is WANTED is made.");
        SevenTown town = ends();
        town.cost(15);
        Due.yes("both want it", town.change(0, 1, 3, -1));
        Due.same("a", Due.knows(town, 0), Due.bits(3));
        Due.same("b", Due.knows(town, 1), Due.bits(2));
        Due.same("c", Due.knows(town, 2), Due.bits(1, 3));
        Due.same("d", Due.knows(town, 3), Due.bits(0, 2));
        Due.no("no more", town.change(0, -1, 3, -1));
        SevenTown both = ends();
        Due.yes("both drop", both.change(0, 1, 3, 2));
        Due.same("a", Due.knows(both, 0), Due.bits(3));
        Due.same("b", Due.knows(both, 1), Due.bits(2));
        Due.same("d", Due.knows(both, 3), Due.bits(0));
        SevenTown shared = Due.town(3, "ac,bc");
        shared.need(0, 1, 8);
        shared.need(1, 0, 8);
        Due.yes("both drop the same one", shared.change(0, 2, 1, 2));
        Due.same("a", Due.knows(shared, 0), Due.bits(1));
        Due.same("c", Due.knows(shared, 2), 0);
    }

    private static void promise24Refused() {
        Due.promise(24, "False: it is not, it can't be.");
        SevenTown town = Due.town(4, "ab,bc,cd");
        town.need(0, 3, 40);
        Due.refused(town, "the other gains nothing", () -> town.change(0, -1, 3, -1));
        Due.refused(town, "the one taken alone gains", () -> town.change(3, -1, 0, -1));
        town.need(3, 0, 20);
        town.cost(15);
        Due.refused(town, "known", () -> town.change(0, -1, 1, -1));
        Due.refused(town, "the other would gain 0", () -> town.change(0, -1, 3, 2));
        Due.refused(town, "it would gain 0", () -> town.change(3, 2, 0, -1));
        Due.refused(town, "drops one not known", () -> town.change(0, 2, 3, -1));
        town.most(0, 1);
        Due.refused(town, "wanted, but full", () -> town.change(0, -1, 3, -1));
        Due.refused(town, "wanted, but the other is full", () -> town.change(3, -1, 0, -1));
        Due.yes("with a drop", town.change(3, -1, 0, 1));
    }

    /** Changes by which one gains first and the other second: a and c have b between them. */
    private static boolean changed(int first, int second) {
        SevenTown town = Due.town(3, "ab,bc");
        town.need(0, 2, first);
        town.need(2, 0, second);
        boolean made = town.change(0, -1, 2, -1);
        Due.same("tied then", Due.knows(town, 0), made ? 6 : 2);
        return made;
    }

    private static void leastChanges() {
        Due.term("It is WANTED, if both GAINS are above 0.");
        Due.yes("1 and 1", changed(1, 1));
        Due.no("0 and 1", changed(0, 1));
        Due.no("1 and 0", changed(1, 0));
        SevenTown town = Due.town(3, "ab,bc");
        town.need(0, 2, 10);
        town.need(2, 0, 12);
        town.cost(5);
        Due.no("5 less 5", town.change(0, 1, 2, -1));
        Due.no("6, but the other 5 less 5", town.change(2, -1, 0, 1));
        Due.yes("6 less 5, and 5", town.change(0, -1, 2, 1));
    }

    private static void promise25Best() {
        Due.promise(25, "BEST: 0 whom it takes, 1 whom it drops, 2 whom the other drops (NONE:"
                + " nobody), 3 its GAIN.");
        SevenTown town = ends();
        Due.same("takes", town.best(0, 0), 3);
        Due.same("drops", town.best(0, 1), -1);
        Due.same("theirs", town.best(0, 2), -1);
        Due.same("gain", town.best(0, 3), 30);
        Due.same("gain of the other", town.best(3, 3), 15);
        town.most(0, 1);
        town.most(3, 1);
        town.cost(10);
        Due.same("takes", town.best(0, 0), 3);
        Due.same("must drop", town.best(0, 1), 1);
        Due.same("must drop", town.best(0, 2), 2);
        Due.same("pays", town.best(0, 3), 20);
        Due.same("nothing is changed", town.all(3), 3);
        Due.promise(25, "HIDDEN: none, no such ones.");
        Due.refused(town, "b needs nobody", -1000000, () -> town.best(1, 0));
        Due.unchanged(town, () -> {
            for (int what : new int[] {4, 5, -1, Integer.MIN_VALUE, Integer.MAX_VALUE}) {
                Due.same("best(0, " + what + ")", town.best(0, what), -1000000);
            }
        });
        Due.unchanged(town, () -> {
            for (int one : NOBODY) {
                Due.same("best(" + one + ", 0)", town.best(one, 0), -1000000);
            }
        });
        town.cost(14);
        Due.same("the other one gains 1", town.best(0, 3), 16);
        town.cost(15);
        Due.unchanged(town, () -> {
            for (int what = 0; what < 4; what++) {
                Due.same("the other one gains 0", town.best(0, what), -1000000);
            }
        });
        Due.same("of two apart", new SevenTown(2).best(0, 0), -1000000);
    }

    private static void bestOfSeveral() {
        Due.term("BEST of one: the WANTED CHANGE with its greatest GAIN; of several that with the"
                + " lowest taken, then the one it drops (nobody first), then the one the other"
                + " drops (likewise).");
        SevenTown town = new SevenTown(6);
        for (int i = 1; i < 6; i++) {
            town.need(i, 0, 10);
        }
        town.need(0, 2, 10);
        town.need(0, 3, 10);
        Due.same("the lower one", town.best(0, 0), 2);
        town.need(0, 3, 11);
        Due.same("the greater gain", town.best(0, 0), 3);
        Due.text(town, 0, "ab,ac,de,df");
        town.most(0, 2);
        town.most(3, 2);
        town.need(0, 2, 0);
        Due.same("d is taken", town.best(0, 0), 3);
        Due.same("the lower one is dropped", town.best(0, 1), 1);
        Due.same("the lower one of d's", town.best(0, 2), 4);
        town.need(0, 1, 5);
        Due.same("the lower one is needed", town.best(0, 1), 2);
        town.need(0, 4, 8);
        Due.same("e is needed at d's side", town.best(0, 2), 5);
        town.need(0, 4, 0);
        town.need(3, 4, 11);
        Due.same("d needs e more than a", town.best(0, 2), 5);
        town.most(0, 7);
        town.most(3, 7);
        Due.same("nobody ahead of somebody", town.best(0, 1), -1);
        Due.same("nobody ahead of somebody", town.best(0, 2), -1);
    }

    /** With a cost the one who takes would rather have the other one pay it. */
    private static void bestPaysNothing() {
        SevenTown town = Due.town(5, "ab,cd");
        town.need(0, 2, 30);
        town.need(2, 0, 30);
        town.cost(9);
        town.most(2, 1);
        Due.same("the other must drop", town.best(0, 2), 3);
        Due.same("and pays", town.best(0, 3), 30);
        Due.same("who takes must pay", town.best(2, 3), 21);
        Due.same("who is taken need not", town.best(2, 2), -1);
        Due.same("d is dropped", town.best(2, 1), 3);
    }

    private static void promise26Turn() {
        Due.promise(26, "TURNS.");
        Due.term("TURNS: from 0 on, round and round, each makes its BEST, till a whole round"
                + " makes none: how many; more than 40: a RING (all TIES as ahead of it).");
        SevenTown town = new SevenTown(4);
        Due.same("nobody needs", town.turn(), 0);
        for (int i = 0; i < 4; i++) {
            for (int j = 0; j < 4; j++) {
                town.need(i, j, 1);
            }
        }
        Due.same("all tie: one way costs nothing", town.turn(), 6);
        Due.same("all", town.all(3), 6);
        Due.same("none more", town.turn(), 0);
        SevenTown pairs = new SevenTown(6);
        pairs.need(0, 5, 3);
        pairs.need(5, 0, 3);
        pairs.need(5, 4, 9);
        pairs.need(4, 5, 9);
        for (int i = 0; i < 6; i++) {
            pairs.most(i, 1);
        }
        Due.same("0 is dropped again", pairs.turn(), 2);
        Due.same("f", Due.knows(pairs, 5), Due.bits(4));
        Due.same("a", Due.knows(pairs, 0), 0);
        Due.same("of two", new SevenTown(2).turn(), 0);
    }

    /** Three who each like the next one better than the one ahead never come to rest. */
    private static void promise26Ring() {
        Due.promise(26, "NONE: a RING.");
        SevenTown town = Due.town(4, "");
        for (int i = 0; i < 3; i++) {
            town.most(i, 1);
            town.need(i, (i + 1) % 3, 9);
            town.need(i, (i + 2) % 3, 5);
        }
        Due.refused(town, "a ring", -1, () -> town.turn());
        Due.same("all ties as ahead", town.all(3), 0);
        Due.no("not stable", town.stable());
        town.tie(0, 2);
        Due.refused(town, "a ring", -1, () -> town.turn());
        Due.same("a", Due.knows(town, 0), Due.bits(2));
        Due.same("b", Due.knows(town, 1), 0);
        town.cost(4);
        Due.same("too dear", town.turn(), 0);
        Due.yes("stable", town.stable());
    }

    /** Towns by chance that come to rest behind so many changes (44: they may go on for ever). */
    private static void fortyTurns(int seed, int due) {
        Due.term("TURNS: from 0 on, round and round, each makes its BEST, till a whole round"
                + " makes none: how many; more than 40: a RING (all TIES as ahead of it).");
        SevenTown town = chanceTown(seed);
        int people = town.count(0);
        int calls = 100;
        int made = 0;
        int idle = 0;
        for (int one = 0; idle < people && made < 44; one = (one + 1) % people) {
            int takes = town.best(one, 0);
            idle++;
            calls++;
            if (takes != SevenTown.HIDDEN) {
                Due.yes("wanted", town.change(one, town.best(one, 1), takes, town.best(one, 2)));
                calls += 3;
                made++;
                idle = 0;
            }
        }
        Due.yes("so few calls of one town", calls <= 512);
        Due.same("changes by hand", made, due);
        SevenTown turned = chanceTown(seed);
        Due.same("turns of seed " + seed, turned.turn(), due <= 40 ? due : -1);
        for (int one = 0; one < people; one++) {
            Due.same("ties behind turns", Due.knows(turned, one),
                    due <= 40 ? Due.knows(town, one) : 0);
        }
    }

    private static SevenTown chanceTown(int seed) {
        Random random = new Random(seed);
        int people = 8 + random.nextInt(13);
        SevenTown town = new SevenTown(people);
        for (int i = 0; i < people; i++) {
            town.most(i, 2 + random.nextInt(7));
        }
        for (int i = 0; i < 60; i++) {
            int one = random.nextInt(people);
            int other = random.nextInt(people);
            town.need(one, other, 1 + random.nextInt(99));
        }
        town.cost(random.nextInt(5));
        return town;
    }

    private static void promise27Stable() {
        Due.promise(27, "STABLE.");
        Due.term("STABLE: nobody has a BEST.");
        SevenTown town = new SevenTown(3);
        Due.yes("no needs", town.stable());
        town.need(2, 0, 1);
        Due.yes("one alone", town.stable());
        town.need(0, 2, 1);
        Due.no("both", town.stable());
        town.most(0, 0);
        Due.yes("one may not", town.stable());
        town.most(0, 1);
        town.turn();
        Due.yes("behind the turns", town.stable());
    }
}
