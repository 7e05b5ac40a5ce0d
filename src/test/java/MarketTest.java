import java.util.Random;

/** Promises 20 to 27: needs, values, gains, changes, turns. */
public final class MarketTest {
    private MarketTest() {
    }

    public static void main(String[] args) {
        need();
        value();
        cost();
        gain();
        gainWithDrops();
        change();
        leastChanges();
        best();
        bestOfSeveral();
        turn();
        ring();
        fortyTurns(139, 39);
        fortyTurns(522, 40);
        fortyTurns(2972, 41);
        fortyTurns(2122, 42);
        fortyTurns(495, 200);
        stable();
        Due.report();
    }

    private static void need() {
        SevenTown town = new SevenTown(20);
        Due.no("alike", town.need(1, 1, 5));
        Due.no("no such one", town.need(1, 20, 5));
        Due.no("no such one", town.need(-1, 1, 5));
        Due.no("below", town.need(0, 1, -1));
        Due.no("above", town.need(0, 1, 100));
        Due.same("none", town.count(3), 0);
        Due.yes("a need that is not there is gone", town.need(0, 1, 0));
        Due.same("none still", town.count(3), 0);
        int made = 0;
        for (int i = 0; i < 20; i++) {
            for (int j = 1; j <= 3; j++) {
                Due.yes("sixty", town.need(i, (i + j) % 20, 99));
                made++;
                Due.same("so many", town.count(3), made);
            }
        }
        Due.no("a 61st", town.need(0, 10, 1));
        Due.yes("anew instead", town.need(0, 1, 1));
        Due.yes("none that is not there is gone", town.need(0, 10, 0));
        Due.yes("anew instead of 1", town.need(0, 1, 2));
        Due.yes("anew instead of 2", town.need(0, 1, 1));
        Due.yes("one gone", town.need(0, 2, 0));
        Due.same("59", town.count(3), 59);
        Due.yes("a 60th again", town.need(0, 10, 1));
        Due.no("a 61st again", town.need(0, 2, 1));
        town.tie(0, 1);
        Due.same("the one instead", town.value(0), 1);
    }

    private static void value() {
        SevenTown town = Due.town(6, "ab,bc,cd,de");
        Due.same("no needs", town.value(0), 0);
        town.need(0, 1, 9);
        town.need(0, 2, 9);
        town.need(0, 3, 7);
        town.need(0, 4, 7);
        town.need(0, 5, 99);
        Due.same("each cut", town.value(0), 9 + 4 + 1 + 0);
        town.need(0, 4, 8);
        Due.same("an eighth of eight", town.value(0), 9 + 4 + 1 + 1);
        Due.same("needs are of one", town.value(1), 0);
        Due.same("no such one", town.value(6), -1);
        Due.same("no such one", town.value(-1), -1);
    }

    private static void cost() {
        SevenTown town = new SevenTown(4);
        Due.no("below", town.cost(-1));
        Due.no("above", town.cost(100));
        Due.yes("99", town.cost(99));
        Due.same("99", town.count(4), 99);
        Due.yes("0", town.cost(0));
        Due.same("0", town.count(4), 0);
    }

    private static void gain() {
        SevenTown town = Due.town(6, "ab,bc,cd");
        town.need(0, 3, 40);
        town.need(3, 0, 20);
        Due.same("first", town.gain(0, -1, 3, -1, 0), 30);
        Due.same("taken", town.gain(0, -1, 3, -1, 1), 15);
        Due.same("no such side", town.gain(0, -1, 3, -1, 2), -1000000);
        Due.same("no such side", town.gain(0, -1, 3, -1, -1), -1000000);
        Due.same("itself", town.gain(0, -1, 0, -1, 0), -1000000);
        Due.same("known", town.gain(0, -1, 1, -1, 0), -1000000);
        Due.same("drops one not known", town.gain(0, 2, 3, -1, 0), -1000000);
        Due.same("they drop one not known", town.gain(0, -1, 3, 1, 0), -1000000);
        Due.same("drops no such one", town.gain(0, -2, 3, -1, 0), -1000000);
        Due.same("they drop no such one", town.gain(0, -1, 3, 6, 0), -1000000);
        Due.same("takes no such one", town.gain(0, -1, 6, -1, 0), -1000000);
        Due.same("takes nobody", town.gain(0, -1, -1, -1, 0), -1000000);
        Due.same("no such one", town.gain(6, -1, 3, -1, 0), -1000000);
        Due.same("no such one", town.gain(-1, -1, 3, -1, 0), -1000000);
        Due.same("nothing is changed", Due.knows(town, 0), Due.bits(1));
        town.most(0, 1);
        Due.same("full", town.gain(0, -1, 3, -1, 0), -1000000);
        Due.same("full but drops", town.gain(0, 1, 3, -1, 0), 30);
        town.most(3, 1);
        Due.same("the other is full", town.gain(0, 1, 3, -1, 1), -1000000);
        Due.same("the other drops", town.gain(0, 1, 3, 2, 1), 15);
        town.most(5, 0);
        Due.same("most 0", town.gain(0, 1, 5, -1, 1), -1000000);
    }

    private static void gainWithDrops() {
        SevenTown town = Due.town(6, "ab,bc,cd");
        town.need(0, 3, 40);
        town.need(3, 0, 20);
        town.need(0, 1, 10);
        town.cost(7);
        Due.same("no drop, no cost", town.gain(0, -1, 3, -1, 0), 30);
        Due.same("b is three away then", town.gain(0, 1, 3, -1, 0), 40 + 2 - 20 - 7);
        Due.same("the other pays nothing", town.gain(0, 1, 3, -1, 1), 15);
        Due.same("the other pays", town.gain(0, -1, 3, 2, 1), 8);
        Due.same("the first pays nothing", town.gain(0, -1, 3, 2, 0), 30);
        Due.same("b is cut off then", town.gain(0, 1, 3, 2, 0), 40 - 20 - 7);
        SevenTown shared = Due.town(4, "ac,bc");
        shared.need(0, 1, 8);
        shared.need(0, 2, 3);
        Due.same("both drop the same one", shared.gain(0, 2, 1, 2, 0), 8 - 4 - 3);
        Due.same("nothing is changed", Due.knows(shared, 2), Due.bits(0, 1));
        SevenTown worse = Due.town(4, "ac,bc");
        worse.need(0, 2, 9);
        Due.same("less than nothing", worse.gain(0, 2, 1, 2, 0), -9);
    }

    private static void change() {
        SevenTown town = Due.town(6, "ab,bc,cd");
        town.need(0, 3, 40);
        Due.no("the other gains nothing", town.change(0, -1, 3, -1));
        town.need(3, 0, 20);
        town.cost(15);
        Due.no("known", town.change(0, -1, 1, -1));
        Due.no("no such one", town.change(0, -1, 6, -1));
        Due.no("the other would gain 0", town.change(0, -1, 3, 2));
        Due.no("drops no such one", town.change(0, 5, 3, -1));
        Due.same("nothing is changed", town.all(3), 3);
        Due.yes("both want it", town.change(0, 1, 3, -1));
        Due.same("a", Due.knows(town, 0), Due.bits(3));
        Due.same("b", Due.knows(town, 1), Due.bits(2));
        Due.same("d", Due.knows(town, 3), Due.bits(0, 2));
        Due.no("no more", town.change(0, -1, 3, -1));
    }

    /** Changes by which one gains first and the other second: a and c have b between them. */
    private static boolean changed(int first, int second) {
        SevenTown town = Due.town(3, "ab,bc");
        town.need(0, 2, first);
        town.need(2, 0, second);
        boolean made = town.change(0, -1, 2, -1);
        Due.same("tied then", Due.knows(town, 0), made ? 6 : 2);
        return made;
    }

    private static void leastChanges() {
        Due.yes("1 and 1", changed(1, 1));
        Due.no("0 and 1", changed(0, 1));
        Due.no("1 and 0", changed(1, 0));
        SevenTown town = Due.town(3, "ab,bc");
        town.need(0, 2, 10);
        town.need(2, 0, 12);
        town.cost(5);
        Due.no("5 less 5", town.change(0, 1, 2, -1));
        Due.no("6, but the other 5 less 5",
                town.change(2, -1, 0, 1));
        Due.yes("6 less 5, and 5", town.change(0, -1, 2, 1));
    }

    private static void best() {
        SevenTown town = Due.town(6, "ab,bc,cd");
        town.need(0, 3, 40);
        town.need(3, 0, 20);
        Due.same("takes", town.best(0, 0), 3);
        Due.same("drops", town.best(0, 1), -1);
        Due.same("theirs", town.best(0, 2), -1);
        Due.same("gain", town.best(0, 3), 30);
        Due.same("gain of the other", town.best(3, 3), 15);
        Due.same("none", town.best(1, 0), -1000000);
        Due.same("no such what", town.best(0, 4), -1000000);
        Due.same("no such what", town.best(0, -1), -1000000);
        Due.same("no such one", town.best(6, 0), -1000000);
        Due.same("no such one", town.best(-1, 0), -1000000);
        town.most(0, 1);
        town.most(3, 1);
        town.cost(10);
        Due.same("takes", town.best(0, 0), 3);
        Due.same("must drop", town.best(0, 1), 1);
        Due.same("must drop", town.best(0, 2), 2);
        Due.same("pays", town.best(0, 3), 20);
        town.cost(15);
        Due.same("the other one gains 0", town.best(0, 3), -1000000);
        Due.same("nothing is changed", town.all(3), 3);
    }

    private static void bestOfSeveral() {
        SevenTown town = new SevenTown(6);
        for (int i = 1; i < 6; i++) {
            town.need(i, 0, 10);
        }
        town.need(0, 2, 10);
        town.need(0, 3, 10);
        Due.same("the lower one", town.best(0, 0), 2);
        town.need(0, 3, 11);
        Due.same("the greater gain", town.best(0, 0), 3);
        Due.text(town, 0, "ab,ac,de");
        town.most(0, 2);
        town.most(3, 1);
        town.need(0, 2, 0);
        Due.same("d is taken", town.best(0, 0), 3);
        Due.same("the lower one is dropped", town.best(0, 1), 1);
        Due.same("whom d has", town.best(0, 2), 4);
        town.most(0, 7);
        town.most(3, 7);
        Due.same("nobody ahead of somebody", town.best(0, 1), -1);
        Due.same("nobody ahead of somebody", town.best(0, 2), -1);
    }

    private static void turn() {
        SevenTown town = new SevenTown(4);
        Due.same("nobody needs", town.turn(), 0);
        for (int i = 0; i < 4; i++) {
            for (int j = 0; j < 4; j++) {
                town.need(i, j, 1);
            }
        }
        Due.same("all tie: one way costs nothing", town.turn(), 6);
        Due.same("all", town.all(3), 6);
        Due.same("none more", town.turn(), 0);
        SevenTown pairs = new SevenTown(6);
        pairs.need(0, 5, 3);
        pairs.need(5, 0, 3);
        pairs.need(5, 4, 9);
        pairs.need(4, 5, 9);
        for (int i = 0; i < 6; i++) {
            pairs.most(i, 1);
        }
        Due.same("0 is dropped again", pairs.turn(), 2);
        Due.same("f", Due.knows(pairs, 5), Due.bits(4));
    }

    /** Three who each like the next one better than the one ahead never come to rest. */
    private static void ring() {
        SevenTown town = Due.town(4, "");
        for (int i = 0; i < 3; i++) {
            town.most(i, 1);
            town.need(i, (i + 1) % 3, 9);
            town.need(i, (i + 2) % 3, 5);
        }
        Due.same("a ring", town.turn(), -1);
        Due.same("all ties as ahead", town.all(3), 0);
        Due.no("not stable", town.stable());
        town.tie(0, 2);
        Due.same("a ring", town.turn(), -1);
        Due.same("a", Due.knows(town, 0), Due.bits(2));
        Due.same("b", Due.knows(town, 1), 0);
        town.cost(4);
        Due.same("too dear", town.turn(), 0);
        Due.yes("stable", town.stable());
    }

    /** Towns by chance that come to rest behind so many changes (not at all, for 200). */
    private static void fortyTurns(int seed, int due) {
        SevenTown town = chanceTown(seed);
        int made = 0;
        int idle = 0;
        for (int one = 0; idle < town.count(0) && made < 200; one = (one + 1) % town.count(0)) {
            int takes = town.best(one, 0);
            idle++;
            if (takes != SevenTown.HIDDEN) {
                Due.yes("wanted", town.change(one, town.best(one, 1), takes, town.best(one, 2)));
                made++;
                idle = 0;
            }
        }
        Due.same("changes by hand", made, due);
        SevenTown turned = chanceTown(seed);
        Due.same("turns of seed " + seed, turned.turn(), due <= 40 ? due : -1);
        for (int one = 0; one < town.count(0); one++) {
            Due.same("ties behind turns", Due.knows(turned, one),
                    due <= 40 ? Due.knows(town, one) : 0);
        }
    }

    private static SevenTown chanceTown(int seed) {
        Random random = new Random(seed);
        int people = 8 + random.nextInt(13);
        SevenTown town = new SevenTown(people);
        for (int i = 0; i < people; i++) {
            town.most(i, 2 + random.nextInt(7));
        }
        for (int i = 0; i < 60; i++) {
            int one = random.nextInt(people);
            int other = random.nextInt(people);
            town.need(one, other, 1 + random.nextInt(99));
        }
        town.cost(random.nextInt(5));
        return town;
    }

    private static void stable() {
        SevenTown town = new SevenTown(3);
        Due.yes("no needs", town.stable());
        town.need(2, 0, 1);
        Due.yes("one alone", town.stable());
        town.need(0, 2, 1);
        Due.no("both", town.stable());
        town.most(0, 0);
        Due.yes("one may not", town.stable());
        town.most(0, 1);
        town.turn();
        Due.yes("behind the turns", town.stable());
    }
}
