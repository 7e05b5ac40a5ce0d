/** Promises 6 to 19: ties, ways, what holds the town together. */
public final class TiesTest {
    private static final String ROW = "ab,bc,cd,de";

    private TiesTest() {
    }

    public static void main(String[] args) {
        most();
        tie();
        drop();
        knows();
        far();
        ways();
        over();
        of();
        all();
        load();
        apart();
        bears();
        broken();
        mend();
        Due.report();
    }

    private static void most() {
        SevenTown town = Due.town(5, ROW);
        Due.no("most(5, 3)", town.most(5, 3));
        Due.no("most(-1, 3)", town.most(-1, 3));
        Due.no("most(1, 10)", town.most(1, 10));
        Due.no("most(1, -1)", town.most(1, -1));
        Due.no("below its ties", town.most(1, 1));
        Due.same("unchanged", town.of(1, 4), 7);
        Due.yes("as its ties", town.most(1, 2));
        Due.yes("nine", town.most(2, 9));
        Due.same("two", town.of(1, 4), 2);
        Due.same("nine", town.of(2, 4), 9);
        Due.no("full", town.tie(1, 3));
        town.drop(1, 2);
        Due.yes("room again", town.tie(1, 3));
    }

    private static void tie() {
        SevenTown town = new SevenTown(20);
        Due.no("alike", town.tie(3, 3));
        Due.no("no such one", town.tie(3, 20));
        Due.no("no such one", town.tie(-1, 3));
        Due.no("no such one", town.tie(Integer.MIN_VALUE, 32));
        Due.yes("tie(3, 4)", town.tie(3, 4));
        Due.no("tied", town.tie(3, 4));
        Due.no("tied", town.tie(4, 3));
        for (int i = 5; i < 11; i++) {
            Due.yes("up to seven", town.tie(3, i));
        }
        Due.no("an eighth", town.tie(3, 11));
        Due.no("an eighth", town.tie(11, 3));
        Due.yes("nine may be", town.most(3, 9));
        Due.yes("an eighth", town.tie(11, 3));
        Due.same("ties", town.all(3), 8);
    }

    private static void drop() {
        SevenTown town = Due.town(5, ROW);
        Due.no("not tied", town.drop(0, 2));
        Due.no("alike", town.drop(0, 0));
        Due.no("no such one", town.drop(0, 5));
        Due.no("no such one", town.drop(-1, 0));
        Due.no("no such one", town.drop(32, 1));
        Due.yes("tied", town.drop(2, 1));
        Due.no("no more", town.drop(1, 2));
        Due.same("b", Due.knows(town, 1), 1);
        Due.same("c", Due.knows(town, 2), 8);
    }

    private static void knows() {
        SevenTown town = Due.town(20, "ta,tb,ts");
        Due.same("t", Due.knows(town, 19), Due.bits(0, 1, 18));
        Due.same("a", Due.knows(town, 0), Due.bits(19));
        Due.same("c", Due.knows(town, 2), 0);
        Due.same("no such one", Due.knows(town, 20), -2);
        Due.same("no such one", Due.knows(town, -1), -2);
        Due.same("no such one", Due.knows(town, Integer.MIN_VALUE), -2);
    }

    private static void far() {
        SevenTown town = Due.town(6, ROW);
        Due.same("itself", town.far(5, 5), 0);
        Due.same("one", town.far(1, 0), 1);
        Due.same("four", town.far(4, 0), 4);
        Due.same("no way", town.far(5, 0), -1);
        Due.same("no such one", town.far(0, 6), -1);
        Due.same("no such one", town.far(-1, -1), -1);
        SevenTown row = new SevenTown(20);
        for (int i = 0; i < 19; i++) {
            row.tie(i, i + 1);
        }
        Due.same("from end to end", row.far(0, 19), 19);
        Due.same("one way", row.ways(0, 19), 1);
        Due.same("32 is not 0", row.far(32, 1), -1);
        Due.same("33 is not 1", row.far(0, 33), -1);
    }

    private static void ways() {
        SevenTown town = Due.town(9, "ab,ac,bd,cd,de,df,eg,fg");
        Due.same("a to d", town.ways(0, 3), 2);
        Due.same("a to g", town.ways(0, 6), 4);
        Due.same("g to a", town.ways(6, 0), 4);
        Due.same("a to b", town.ways(0, 1), 1);
        Due.same("itself", town.ways(7, 7), 1);
        Due.same("no way", town.ways(0, 7), -1);
        Due.same("no such one", town.ways(0, 9), -1);
        Due.same("no such one", town.ways(-1, 0), -1);
        SevenTown wide = new SevenTown(20);
        for (int layer = 0; layer < 4; layer++) {
            for (int i = 0; i < 16; i++) {
                wide.most(4 * layer + i / 4 + 4, 9);
                wide.most(4 * layer + i % 4, 9);
                wide.tie(4 * layer + i % 4, 4 * layer + i / 4 + 4);
            }
        }
        Due.same("four layers", wide.ways(0, 16), 64);
    }

    private static void over() {
        SevenTown town = Due.town(9, "ab,ac,bd,cd,de,df,eg,fg");
        Due.same("on all", town.over(0, 6, 0), Due.bits(3));
        Due.same("on some", town.over(0, 6, 1), Due.bits(1, 2, 3, 4, 5));
        Due.same("on all of a to d", town.over(0, 3, 0), 0);
        Due.same("two on all", Due.town(5, "ab,bc,cd,de").over(1, 4, 0), Due.bits(2, 3));
        Due.same("a on all", Due.town(5, "ab,ac,ad").over(1, 3, 0), Due.bits(0));
        Due.same("a on some", Due.town(5, "ab,ac,bd,cd").over(1, 2, 1), Due.bits(0, 3));
        Due.same("tied", town.over(0, 1, 1), 0);
        Due.same("itself", town.over(0, 0, 1), 0);
        Due.same("itself", town.over(8, 8, 0), 0);
        Due.same("no way", town.over(0, 8, 1), -1);
        Due.same("no such what", town.over(0, 6, 2), -1);
        Due.same("no such what", town.over(0, 6, -1), -1);
        Due.same("no such one", town.over(0, 9, 0), -1);
        Due.same("a detour is not on", Due.town(5, "ab,bc,ad,de,ec").over(0, 2, 1), Due.bits(1));
    }

    private static void of() {
        SevenTown town = Due.town(7, ROW + ",fg");
        Due.same("sum of a", town.of(0, 0), 1 + 2 + 3 + 4 + 7 + 7);
        Due.same("sum of g", town.of(6, 0), 1 + 5 * 7);
        Due.same("part of c", town.of(2, 1), Due.bits(0, 1, 2, 3, 4));
        Due.same("part of f", town.of(5, 1), Due.bits(5, 6));
        Due.same("part of g", town.of(6, 1), Due.bits(5, 6));
        Due.same("part of e", town.of(4, 1), Due.bits(0, 1, 2, 3, 4));
        Due.same("cut by c", town.of(2, 2), 4);
        Due.same("cut by b", town.of(1, 2), 3);
        Due.same("cut by f", town.of(5, 2), 0);
        Due.same("cut by the hub", Due.town(6, "ab,ac,ad,ae").of(0, 2), 6);
        Due.same("age", town.of(0, 3), 0);
        Due.same("most", town.of(0, 4), 7);
        Due.same("no such what", town.of(0, 5), -1);
        Due.same("no such what", town.of(0, -1), -1);
        Due.same("no such one", town.of(7, 0), -1);
        Due.same("no such one", town.of(-1, 4), -1);
    }

    private static void all() {
        SevenTown town = Due.town(7, ROW + ",fg");
        Due.same("wide", town.all(0), 4);
        Due.same("parts", town.all(1), 2);
        Due.same("key ones", town.all(2), Due.bits(1, 2, 3));
        Due.same("ties", town.all(3), 5);
        Due.same("sums", town.all(4), 24 + 21 + 20 + 21 + 24 + 36 + 36);
        Due.same("no such what", town.all(5), -1);
        Due.same("no such what", town.all(-1), -1);
        SevenTown crossed = Due.town(7, "ae,ac,bd,df");
        Due.same("parts that cross", crossed.all(1), 3);
        Due.same("a is a key one, and d", crossed.all(2), Due.bits(0, 3));
        Due.same("cut by a: one pair", crossed.of(0, 2), 1);
        SevenTown alone = new SevenTown(3);
        Due.same("nobody joined", alone.all(0), 0);
        Due.same("three parts", alone.all(1), 3);
        Due.same("no key ones", alone.all(2), 0);
        Due.same("sums of three alone", alone.all(4), 18);
    }

    private static void load() {
        SevenTown town = Due.town(6, ROW);
        Due.same("b-c", town.load(1, 2), 6);
        Due.same("c-b", town.load(2, 1), 6);
        Due.same("d-e", town.load(3, 4), 4);
        Due.same("not tied", town.load(0, 2), -1);
        Due.same("no such one", town.load(5, 6), -1);
        Due.same("alike", town.load(1, 1), -1);
        SevenTown round = Due.town(4, "ab,bc,cd,da");
        Due.same("rows around share", round.load(0, 1), 1);
        Due.same("all is as ahead", round.all(3), 4);
    }

    private static void apart() {
        SevenTown town = Due.town(8, "ab,ac,ad,be,ce,de,ef,fg");
        Due.same("three rows", town.apart(0, 4), 3);
        Due.same("over one alone", town.apart(0, 5), 1);
        Due.same("no way", town.apart(0, 7), 0);
        Due.same("tied", town.apart(0, 1), -1);
        Due.same("alike", town.apart(2, 2), -1);
        Due.same("no such one", town.apart(0, 8), -1);
        Due.same("no such one", town.apart(-1, 0), -1);
        Due.same("a row taken back", Due.town(6, "ab,ac,bd,be,cd,df,ef").apart(0, 5), 2);
        Due.same("from the other end", Due.town(6, "ab,ac,bd,be,cd,df,ef").apart(5, 0), 2);
        Due.same("all others", Due.town(5, "ab,ac,ad,eb,ec,ed").apart(0, 4), 3);
        Due.same("all over one", Due.town(7, "ab,ac,bd,cd,de,df,eg,fg").apart(0, 6), 1);
    }

    private static void bears() {
        SevenTown round = new SevenTown(5);
        round.ring(1);
        Due.same("none gone", round.bears(0), 1);
        Due.same("one gone", round.bears(1), 1);
        Due.same("two gone", round.bears(2), 0);
        Due.same("three gone", round.bears(3), 0);
        Due.same("no such k", round.bears(4), -1);
        Due.same("no such k", round.bears(-1), -1);
        SevenTown three = new SevenTown(3);
        Due.same("three alone", three.bears(0), 0);
        Due.same("two alone", three.bears(1), 0);
        Due.same("one is joined", three.bears(2), 1);
        Due.same("none are joined", three.bears(3), 1);
        SevenTown two = new SevenTown(2);
        Due.same("more than there are", two.bears(3), 1);
    }

    private static void broken() {
        SevenTown town = Due.town(6, "ab,bc,cd,de,ef");
        Due.same("nobody", town.broken(0), -1);
        Due.same("one", town.broken(1), Due.bits(1));
        Due.same("two: 0 and 2 come ahead of 1 and 2", town.broken(2), Due.bits(0, 2));
        Due.same("three", town.broken(3), Due.bits(0, 1, 3));
        Due.same("no such k", town.broken(4), -1);
        Due.same("no such k", town.broken(-1), -1);
        Due.same("the lower first one", Due.town(5, "ae,be,ce,de").broken(2), Due.bits(0, 4));
        Due.same("parts already", Due.town(4, "ab").broken(0), 0);
        Due.same("parts already", Due.town(4, "ab").broken(2), Due.bits(0, 1));
        Due.same("none", new SevenTown(2).broken(1), -1);
    }

    private static void mend() {
        Due.same("one part", Due.town(5, ROW).mend(), 0);
        Due.same("five parts", new SevenTown(5).mend(), 4);
        SevenTown town = Due.town(6, "ab,cd,ef");
        Due.same("three parts", town.mend(), 2);
        for (int i = 0; i < 6; i++) {
            town.most(i, 1);
        }
        Due.same("no room at all", town.mend(), -1);
        town.most(0, 2);
        town.most(2, 2);
        town.most(4, 2);
        Due.same("three ends are too few for two ties", town.mend(), -1);
        town.most(1, 2);
        Due.same("four are enough", town.mend(), 2);
        town.most(4, 1);
        town.most(3, 2);
        Due.same("a part without room", town.mend(), -1);
        SevenTown four = new SevenTown(4);
        for (int i = 0; i < 4; i++) {
            four.most(i, 1);
        }
        Due.same("four ends are too few for three ties", four.mend(), -1);
        four.most(3, 2);
        Due.same("five too", four.mend(), -1);
        four.most(2, 2);
        Due.same("six are enough", four.mend(), 3);
        four.most(0, 0);
        four.most(3, 9);
        Due.same("a has no room", four.mend(), -1);
        SevenTown full = Due.town(2, "ab");
        full.most(0, 1);
        full.most(1, 1);
        Due.same("one part without room", full.mend(), 0);
    }
}
