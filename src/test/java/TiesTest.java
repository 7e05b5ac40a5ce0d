/** Promises 6 to 19, and the terms of ties, ways, and what holds the town together. */
public final class TiesTest {
    private static final String ROW = "ab,bc,cd,de";
    private static final String TWICE = "ab,ac,bd,cd,de,df,eg,fg";
    private static final int[] NOBODY = {5, 6, 20, 31, 32, 33, 64, Integer.MAX_VALUE, -1, -2, -31,
        -32, Integer.MIN_VALUE, Integer.MIN_VALUE + 1};

    private TiesTest() {
    }

    public static void main(String[] args) {
        promise6Most();
        promise6RefusedMost();
        promise7Tie();
        promise7RefusedTie();
        promise8Drop();
        promise9Knows();
        promise10Far();
        promise11Ways();
        manyWays();
        promise12Over();
        promise13Sum();
        promise13PartAndCut();
        promise13AgeAndMost();
        promise14Wide();
        promise14All();
        promise15Load();
        promise16Apart();
        promise16ApartMany();
        promise17Bears();
        promise18Broken();
        promise19Mend();
        promise19TooLittleRoom();
        Due.report();
    }

    /** A row of all from one end to the other. */
    private static SevenTown rowOf(int people) {
        SevenTown row = new SevenTown(people);
        for (int i = 0; i + 1 < people; i++) {
            row.tie(i, i + 1);
        }
        return row;
    }

    private static void promise6Most() {
        Due.promise(6, "MOST of one.");
        SevenTown town = Due.town(5, ROW);
        Due.yes("as its ties", town.most(1, 2));
        Due.same("two", town.of(1, 4), 2);
        Due.same("the others' stays", town.of(2, 4), 7);
        Due.no("full", town.tie(1, 3));
        town.drop(1, 2);
        Due.yes("room again", town.tie(1, 3));
        Due.term("MOST of one (0 .. 9; 7 at first): no more than so many TIES.");
        for (int v = 0; v <= 9; v++) {
            SevenTown hub = new SevenTown(12);
            Due.same("at first", hub.of(3, 4), 7);
            Due.yes("most " + v, hub.most(11, v));
            Due.same("most", hub.of(11, 4), v);
            for (int i = 0; i < 11; i++) {
                Due.same("tie " + i, hub.tie(11, i) ? 1 : 0, i < v ? 1 : 0);
            }
        }
    }

    private static void promise6RefusedMost() {
        Due.promise(6, "False: no such one, out of bounds, below its TIES.");
        SevenTown town = Due.town(5, ROW);
        Due.unchanged(town, () -> {
            for (int one : NOBODY) {
                Due.no("most(" + one + ", 3)", town.most(one, 3));
            }
        });
        Due.unchanged(town, () -> {
            for (int v : new int[] {-1, -7, 10, 11, Integer.MIN_VALUE, Integer.MAX_VALUE}) {
                Due.no("most(4, " + v + ")", town.most(4, v));
            }
        });
        Due.refused(town, "below its ties", () -> town.most(1, 1));
        Due.refused(town, "below its ties", () -> town.most(0, 0));
        Due.yes("as its ties", town.most(0, 1));
        Due.yes("0 without ties", new SevenTown(2).most(1, 0));
        Due.yes("the last one", town.most(4, 9));
    }

    private static void promise7Tie() {
        Due.promise(7, "Two are tied.");
        SevenTown town = new SevenTown(20);
        Due.yes("tie(3, 4)", town.tie(3, 4));
        Due.same("d", Due.knows(town, 3), Due.bits(4));
        Due.same("e", Due.knows(town, 4), Due.bits(3));
        Due.yes("ends", town.tie(19, 0));
        Due.same("t", Due.knows(town, 19), Due.bits(0));
        Due.same("a", Due.knows(town, 0), Due.bits(19));
        Due.same("ties", town.all(3), 2);
    }

    private static void promise7RefusedTie() {
        Due.promise(7, "False: no such ones, alike, tied, one has MOST.");
        SevenTown town = Due.town(5, ROW);
        Due.unchanged(town, () -> {
            for (int one : NOBODY) {
                Due.no("tie(" + one + ", 0)", town.tie(one, 0));
                Due.no("tie(0, " + one + ")", town.tie(0, one));
                Due.no("tie of no ones", town.tie(one, one + 1));
                Due.no("tie of no one and itself", town.tie(one, one));
            }
        });
        Due.unchanged(town, () -> {
            for (int one = 0; one < 5; one++) {
                Due.no("alike", town.tie(one, one));
            }
        });
        Due.refused(town, "tied", () -> town.tie(0, 1));
        Due.refused(town, "tied", () -> town.tie(1, 0));
        promise7Most();
    }

    private static void promise7Most() {
        SevenTown town = Due.town(5, ROW);
        town.most(1, 2);
        Due.refused(town, "the first has most", () -> town.tie(1, 4));
        Due.refused(town, "the other has most", () -> town.tie(4, 1));
        town.most(1, 3);
        Due.yes("one more", town.tie(4, 1));
        SevenTown great = new SevenTown(20);
        for (int i = 0; i < 7; i++) {
            Due.yes("up to seven", great.tie(11, i));
        }
        Due.refused(great, "an eighth", () -> great.tie(11, 8));
        Due.refused(great, "an eighth", () -> great.tie(8, 11));
        SevenTown none = new SevenTown(2);
        none.most(0, 0);
        Due.refused(none, "most 0", () -> none.tie(1, 0));
    }

    private static void promise8Drop() {
        Due.promise(8, "Two drop each other.");
        SevenTown town = Due.town(5, ROW);
        Due.yes("tied", town.drop(2, 1));
        Due.same("b", Due.knows(town, 1), Due.bits(0));
        Due.same("c", Due.knows(town, 2), Due.bits(3));
        Due.promise(8, "False: no such ones, not tied.");
        Due.refused(town, "no more", () -> town.drop(1, 2));
        Due.refused(town, "not tied", () -> town.drop(0, 2));
        Due.refused(town, "alike", () -> town.drop(0, 0));
        Due.unchanged(town, () -> {
            for (int one : NOBODY) {
                Due.no("drop(" + one + ", 0)", town.drop(one, 0));
                Due.no("drop(0, " + one + ")", town.drop(0, one));
                Due.no("drop(1, " + one + ")", town.drop(1, one));
                Due.no("drop(" + one + ", 1)", town.drop(one, 1));
            }
        });
    }

    private static void promise9Knows() {
        Due.promise(9, "Whom one KNOWS, as bits.");
        SevenTown town = Due.town(20, "ta,tb,ts");
        Due.same("t", Due.knows(town, 19), Due.bits(0, 1, 18));
        Due.same("a", Due.knows(town, 0), Due.bits(19));
        Due.same("c", Due.knows(town, 2), 0);
        Due.promise(9, "NoSuchElementException: no such one.");
        int[] nobody = {20, 21, 32, 52, Integer.MAX_VALUE, -1, -20, Integer.MIN_VALUE};
        Due.unchanged(town, () -> {
            for (int one : nobody) {
                Due.same("knows(" + one + ")", Due.knows(town, one), -2);
            }
        });
        Due.same("of two", Due.knows(new SevenTown(2), 2), -2);
        Due.same("of two", Due.knows(new SevenTown(2), 1), 0);
    }

    private static void promise10Far() {
        Due.promise(10, "FAR.");
        Due.term("FAR of two: the fewest TIES from one to the other (0 of one and itself; there"
                + " may be no way).");
        SevenTown town = Due.town(6, ROW);
        Due.same("itself, who knows nobody", town.far(5, 5), 0);
        Due.same("itself", town.far(2, 2), 0);
        Due.same("one", town.far(1, 0), 1);
        Due.same("four", town.far(4, 0), 4);
        Due.same("four back", town.far(0, 4), 4);
        Due.same("from end to end", rowOf(20).far(0, 19), 19);
        Due.same("the fewest", Due.town(6, ROW + ",ef,fa").far(0, 4), 2);
        Due.promise(10, "NONE: no way, no such ones.");
        Due.same("no way", town.far(5, 0), -1);
        Due.same("no way", town.far(0, 5), -1);
        SevenTown five = Due.town(5, ROW);
        Due.unchanged(five, () -> {
            for (int one : NOBODY) {
                Due.same("far(" + one + ", 0)", five.far(one, 0), -1);
                Due.same("far(0, " + one + ")", five.far(0, one), -1);
                Due.same("no one and itself", five.far(one, one), -1);
            }
        });
    }

    private static void promise11Ways() {
        Due.promise(11, "WAYS (1 of one and itself).");
        Due.term("WAYS: how many rows of so few TIES there are.");
        SevenTown town = Due.town(9, TWICE);
        Due.same("a to d", town.ways(0, 3), 2);
        Due.same("a to g", town.ways(0, 6), 4);
        Due.same("g to a", town.ways(6, 0), 4);
        Due.same("a to b", town.ways(0, 1), 1);
        Due.same("b to c", town.ways(1, 2), 2);
        Due.same("itself", town.ways(3, 3), 1);
        Due.same("itself, who knows nobody", town.ways(7, 7), 1);
        Due.same("from end to end", rowOf(20).ways(0, 19), 1);
        Due.same("longer rows do not count", Due.town(5, "ac,cb,ad,de,eb").ways(0, 1), 1);
        Due.promise(11, "NONE: no way, no such ones.");
        Due.same("no way", town.ways(0, 7), -1);
        Due.same("no way", town.ways(8, 7), -1);
        SevenTown five = Due.town(5, ROW);
        Due.unchanged(five, () -> {
            for (int one : NOBODY) {
                Due.same("ways(" + one + ", 0)", five.ways(one, 0), -1);
                Due.same("ways(0, " + one + ")", five.ways(0, one), -1);
                Due.same("no one and itself", five.ways(one, one), -1);
            }
        });
    }

    private static void manyWays() {
        Due.promise(11, "WAYS (1 of one and itself).");
        SevenTown wide = new SevenTown(20);
        for (int layer = 0; layer < 4; layer++) {
            for (int i = 0; i < 16; i++) {
                wide.most(4 * layer + i / 4 + 4, 9);
                wide.most(4 * layer + i % 4, 9);
                wide.tie(4 * layer + i % 4, 4 * layer + i / 4 + 4);
            }
        }
        Due.same("layers of four", wide.ways(0, 16), 64);
        SevenTown threes = new SevenTown(20);
        for (int i = 0; i < 20; i++) {
            threes.most(i, 9);
        }
        for (int layer = 0; layer < 5; layer++) {
            for (int i = 0; i < 9; i++) {
                threes.tie(1 + 3 * layer + i % 3, 4 + 3 * layer + i / 3);
            }
        }
        for (int i = 1; i <= 3; i++) {
            threes.tie(0, i);
            threes.tie(19, 15 + i);
        }
        Due.same("six layers of three", threes.ways(0, 19), 729);
        Due.same("back", threes.ways(19, 0), 729);
        Due.same("all are on some", threes.over(0, 19, 1), (1 << 19) - 2);
        Due.same("nobody is on all", threes.over(0, 19, 0), 0);
    }

    private static void promise12Over() {
        Due.promise(12, "ON ALL (0), ON SOME (1), as bits.");
        Due.term("ON ALL: PEOPLE (not these two) that are on each of these rows; ON SOME: on one"
                + " at least.");
        SevenTown town = Due.town(9, TWICE);
        Due.same("on all", town.over(0, 6, 0), Due.bits(3));
        Due.same("on some", town.over(0, 6, 1), Due.bits(1, 2, 3, 4, 5));
        Due.same("on all of a to d", town.over(0, 3, 0), 0);
        Due.same("two on all", Due.town(5, ROW).over(1, 4, 0), Due.bits(2, 3));
        Due.same("a on all", Due.town(5, "ab,ac,ad").over(1, 3, 0), Due.bits(0));
        Due.same("a on some", Due.town(5, "ab,ac,bd,cd").over(1, 2, 1), Due.bits(0, 3));
        Due.same("tied", town.over(0, 1, 0), 0);
        Due.same("tied", town.over(0, 1, 1), 0);
        Due.same("itself", town.over(0, 0, 1), 0);
        Due.same("itself, who knows nobody", town.over(8, 8, 0), 0);
        Due.same("a detour is not on", Due.town(5, "ab,bc,ad,de,ec").over(0, 2, 1), Due.bits(1));
        Due.same("all between", rowOf(20).over(0, 19, 0), (1 << 19) - 2);
        Due.same("all between", rowOf(20).over(19, 0, 1), (1 << 19) - 2);
        Due.promise(12, "NONE: no way, no such ones.");
        Due.same("no way", town.over(0, 8, 0), -1);
        Due.same("no way", town.over(0, 8, 1), -1);
        SevenTown five = Due.town(5, ROW);
        Due.unchanged(five, () -> {
            for (int what : new int[] {2, 3, -1, Integer.MIN_VALUE, Integer.MAX_VALUE}) {
                Due.same("over(0, 4, " + what + ")", five.over(0, 4, what), -1);
            }
        });
        Due.unchanged(five, () -> {
            for (int one : NOBODY) {
                Due.same("over(0, " + one + ")", five.over(0, one, 0), -1);
                Due.same("over(" + one + ", 0)", five.over(one, 0, 1), -1);
                Due.same("no one and itself", five.over(one, one, 1), -1);
            }
        });
    }

    private static void promise13Sum() {
        Due.promise(13, "Of one: 0 SUM, 1 its PART (bits), 2 CUT, 3 AGE, 4 MOST.");
        Due.term("SUM of one: FAR to all others together, PEOPLE for each that it can't come to.");
        SevenTown town = Due.town(7, ROW + ",fg");
        Due.same("sum of a", town.of(0, 0), 1 + 2 + 3 + 4 + 7 + 7);
        Due.same("sum of g", town.of(6, 0), 1 + 5 * 7);
        Due.same("sum of one alone", new SevenTown(20).of(19, 0), 19 * 20);
        Due.same("sum of an end", rowOf(20).of(0, 0), 190);
        Due.same("sum of two", Due.town(2, "ab").of(1, 0), 1);
        Due.same("sum of two apart", new SevenTown(2).of(0, 0), 2);
        Due.promise(13, "NONE: no such ones.");
        SevenTown five = Due.town(5, ROW);
        Due.unchanged(five, () -> {
            for (int what : new int[] {5, 6, -1, Integer.MIN_VALUE, Integer.MAX_VALUE}) {
                Due.same("of(0, " + what + ")", five.of(0, what), -1);
            }
        });
        Due.unchanged(five, () -> {
            for (int one : NOBODY) {
                for (int what = 0; what <= 4; what++) {
                    Due.same("of(" + one + ", " + what + ")", five.of(one, what), -1);
                }
            }
        });
    }

    private static void promise13PartAndCut() {
        Due.term("PART of one: all that it can come to, itself, too.");
        SevenTown town = Due.town(8, ROW + ",fg");
        Due.same("part of c", town.of(2, 1), Due.bits(0, 1, 2, 3, 4));
        Due.same("part of e", town.of(4, 1), Due.bits(0, 1, 2, 3, 4));
        Due.same("part of f", town.of(5, 1), Due.bits(5, 6));
        Due.same("part of g", town.of(6, 1), Due.bits(5, 6));
        Due.same("itself, who knows nobody", town.of(7, 1), Due.bits(7));
        Due.same("all of a row", rowOf(20).of(19, 1), (1 << 20) - 1);
        Due.term("CUT by one: how many pairs of others that are joined would not be without it;"
                + " KEY ones: of whom that is any.");
        Due.same("cut by c", town.of(2, 2), 4);
        Due.same("cut by b", town.of(1, 2), 3);
        Due.same("cut by an end", town.of(0, 2), 0);
        Due.same("cut by f", town.of(5, 2), 0);
        Due.same("cut by h", town.of(7, 2), 0);
        Due.same("cut by the hub", Due.town(6, "ab,ac,ad,ae").of(0, 2), 6);
        Due.same("cut by the middle", rowOf(20).of(9, 2), 9 * 10);
        Due.same("nobody is cut in a ring", Due.town(4, "ab,bc,cd,da").of(0, 2), 0);
        Due.same("key ones", town.all(2), Due.bits(1, 2, 3));
        SevenTown crossed = Due.town(7, "ae,ac,bd,df");
        Due.same("a is a key one, and d", crossed.all(2), Due.bits(0, 3));
        Due.same("cut by a: one pair", crossed.of(0, 2), 1);
        Due.same("no key ones", new SevenTown(3).all(2), 0);
        Due.same("all but the ends", rowOf(20).all(2), (1 << 19) - 2);
    }

    private static void promise13AgeAndMost() {
        Due.promise(13, "Of one: 0 SUM, 1 its PART (bits), 2 CUT, 3 AGE, 4 MOST.");
        SevenTown town = Due.town(3, "", "y:0");
        Due.same("age", town.of(0, 3), 0);
        Due.same("most", town.of(0, 4), 7);
        town.years(0, 0, 30, 1L);
        town.most(0, 0);
        town.most(2, 9);
        Due.same("age", town.of(2, 3), 30);
        Due.same("most", town.of(0, 4), 0);
        Due.same("most", town.of(2, 4), 9);
    }

    private static void promise14Wide() {
        Due.term("WIDE: the greatest FAR of two that are joined at all.");
        Due.same("nobody joined", new SevenTown(3).all(0), 0);
        Due.same("one tie", Due.town(3, "bc").all(0), 1);
        Due.same("two parts", Due.town(7, ROW + ",fg").all(0), 4);
        Due.same("a later part", Due.town(7, "ab,cd,de,ef").all(0), 3);
        Due.same("a row", rowOf(20).all(0), 19);
        SevenTown round = new SevenTown(20);
        round.ring(1);
        Due.same("a ring", round.all(0), 10);
    }

    private static void promise14All() {
        Due.promise(14, "Of all: 0 WIDE, 1 PARTS, 2 KEY ones (bits), 3 TIES, 4 SUMS of all"
                + " together.");
        SevenTown town = Due.town(7, ROW + ",fg");
        Due.same("wide", town.all(0), 4);
        Due.same("parts", town.all(1), 2);
        Due.same("key ones", town.all(2), Due.bits(1, 2, 3));
        Due.same("ties", town.all(3), 5);
        Due.same("sums", town.all(4), 24 + 21 + 20 + 21 + 24 + 36 + 36);
        Due.same("parts that cross", Due.town(7, "ae,ac,bd,df").all(1), 3);
        Due.same("as many parts as people", new SevenTown(20).all(1), 20);
        Due.same("one part", rowOf(20).all(1), 1);
        Due.same("no ties", new SevenTown(2).all(3), 0);
        Due.same("sums of all apart", new SevenTown(20).all(4), 20 * 19 * 20);
        SevenTown most = new SevenTown(20);
        for (int i = 0; i < 20; i++) {
            most.most(i, 9);
        }
        most.ring(1 + 2 + 4 + 8 + 512);
        Due.same("ninety ties", most.all(3), 90);
        Due.promise(14, "NONE: no such what.");
        Due.unchanged(town, () -> {
            for (int what : new int[] {5, 6, -1, Integer.MIN_VALUE, Integer.MAX_VALUE}) {
                Due.same("all(" + what + ")", town.all(what), -1);
            }
        });
    }

    private static void promise15Load() {
        Due.promise(15, "LOAD.");
        Due.term("LOAD of a TIE: of how many pairs all shortest rows go over it.");
        SevenTown town = Due.town(6, ROW);
        Due.same("b-c", town.load(1, 2), 6);
        Due.same("c-b", town.load(2, 1), 6);
        Due.same("d-e", town.load(3, 4), 4);
        Due.same("of two", Due.town(2, "ab").load(0, 1), 1);
        Due.same("rows around share", Due.town(4, "ab,bc,cd,da").load(0, 1), 1);
        Due.same("rows around of five", Due.town(5, "ab,bc,cd,de,ea").load(0, 1), 3);
        Due.same("the middle of a row", rowOf(20).load(9, 10), 100);
        Due.promise(15, "NONE: no such TIE.");
        SevenTown five = Due.town(5, ROW);
        Due.refused(five, "not tied", -1, () -> five.load(0, 2));
        Due.refused(five, "alike", -1, () -> five.load(1, 1));
        Due.unchanged(five, () -> {
            for (int one : NOBODY) {
                Due.same("load(" + one + ", 0)", five.load(one, 0), -1);
                Due.same("load(1, " + one + ")", five.load(1, one), -1);
            }
        });
        five.load(0, 1);
        Due.same("all is as ahead", five.all(3), 4);
    }

    private static void promise16Apart() {
        Due.promise(16, "APART.");
        Due.term("APART: how many rows from one to another one, not tied, that share no PEOPLE"
                + " but these two, there can be at most.");
        SevenTown town = Due.town(8, "ab,ac,ad,be,ce,de,ef,fg");
        Due.same("three rows", town.apart(0, 4), 3);
        Due.same("over one alone", town.apart(0, 5), 1);
        Due.same("no way", town.apart(0, 7), 0);
        Due.same("a row taken back", Due.town(6, "ab,ac,bd,be,cd,df,ef").apart(0, 5), 2);
        Due.same("from the other end", Due.town(6, "ab,ac,bd,be,cd,df,ef").apart(5, 0), 2);
        Due.same("all others", Due.town(5, "ab,ac,ad,eb,ec,ed").apart(0, 4), 3);
        Due.same("all over one", Due.town(7, "ab,ac,bd,cd,de,df,eg,fg").apart(0, 6), 1);
        Due.promise(16, "NONE: no such ones, alike, tied.");
        SevenTown five = Due.town(5, ROW);
        Due.refused(five, "tied", -1, () -> five.apart(0, 1));
        Due.refused(five, "tied", -1, () -> five.apart(1, 0));
        Due.refused(five, "alike", -1, () -> five.apart(2, 2));
        Due.unchanged(five, () -> {
            for (int one : NOBODY) {
                Due.same("apart(" + one + ", 0)", five.apart(one, 0), -1);
                Due.same("apart(0, " + one + ")", five.apart(0, one), -1);
            }
        });
    }

    private static void promise16ApartMany() {
        Due.promise(16, "APART.");
        SevenTown great = new SevenTown(20);
        great.most(0, 9);
        great.most(19, 9);
        for (int i = 1; i <= 9; i++) {
            great.tie(0, i);
            great.tie(i, i + 9);
            great.tie(i + 9, 19);
        }
        Due.same("nine rows of three ties", great.apart(0, 19), 9);
        great.drop(4, 13);
        Due.same("eight", great.apart(19, 0), 8);
        great.tie(4, 5);
        Due.same("e goes over f, who is on a row", great.apart(19, 0), 8);
        Due.same("two apart", new SevenTown(2).apart(0, 1), 0);
        SevenTown round = new SevenTown(20);
        round.ring(1);
        Due.same("two ways round", round.apart(0, 10), 2);
    }

    private static void promise17Bears() {
        Due.promise(17, "Whether they BEAR k (1, 0).");
        Due.term("BEARS k (0 .. 3): all PEOPLE without any k of them are joined (so are one,"
                + " none).");
        SevenTown round = new SevenTown(5);
        round.ring(1);
        Due.same("none gone", round.bears(0), 1);
        Due.same("one gone", round.bears(1), 1);
        Due.same("two gone", round.bears(2), 0);
        Due.same("three gone", round.bears(3), 0);
        SevenTown three = new SevenTown(3);
        Due.same("three alone", three.bears(0), 0);
        Due.same("two alone", three.bears(1), 0);
        Due.same("one is joined", three.bears(2), 1);
        Due.same("none are joined", three.bears(3), 1);
        SevenTown two = new SevenTown(2);
        Due.same("two alone", two.bears(0), 0);
        Due.same("one", two.bears(1), 1);
        Due.same("none", two.bears(2), 1);
        Due.same("more than there are", two.bears(3), 1);
        SevenTown four = new SevenTown(20);
        four.ring(3);
        Due.same("four ways each", four.bears(3), 1);
        Due.promise(17, "NONE: no such k.");
        Due.unchanged(round, () -> {
            for (int k : new int[] {4, 5, 20, 32, -1, Integer.MIN_VALUE, Integer.MAX_VALUE}) {
                Due.same("bears(" + k + ")", round.bears(k), -1);
            }
        });
    }

    private static void promise18Broken() {
        Due.promise(18, "BREAK, as bits.");
        Due.term("BREAK k: the set of k without which they are not (of several that with the"
                + " lower one where two first differ).");
        SevenTown town = Due.town(6, "ab,bc,cd,de,ef");
        Due.same("one", town.broken(1), Due.bits(1));
        Due.same("two: 0 and 2 come ahead of 1 and 2", town.broken(2), Due.bits(0, 2));
        Due.same("three", town.broken(3), Due.bits(0, 1, 3));
        Due.same("the lower first one", Due.town(5, "ae,be,ce,de").broken(2), Due.bits(0, 4));
        Due.same("parts already: nobody", Due.town(4, "ab").broken(0), 0);
        Due.same("parts already", Due.town(4, "ab").broken(2), Due.bits(0, 1));
        Due.same("the last one", Due.town(4, "da,db,dc").broken(1), Due.bits(3));
        Due.same("the last three", Due.town(5, "ac,ad,ae,bc,bd,be,cd,ce,de").broken(3),
                Due.bits(2, 3, 4));
        SevenTown round = new SevenTown(20);
        round.ring(1);
        Due.same("of twenty", round.broken(2), Due.bits(0, 2));
        SevenTown last = twoRingsAndThree();
        Due.same("no two of twenty", last.broken(2), -1);
        Due.same("the last three of twenty", last.broken(3), Due.bits(17, 18, 19));
        Due.same("they do not bear it", last.bears(3), 0);
        Due.promise(18, "NONE: none, no such k.");
        Due.same("joined", town.broken(0), -1);
        Due.same("of two", new SevenTown(2).broken(1), -1);
        Due.same("of two", new SevenTown(2).broken(2), -1);
        Due.same("of two", new SevenTown(2).broken(3), -1);
        Due.same("of three", new SevenTown(3).broken(3), -1);
        Due.same("all tied", Due.town(5, "ab,ac,ad,ae,bc,bd,be,cd,ce,de").broken(3), -1);
        Due.unchanged(town, () -> {
            for (int k : new int[] {4, 5, 20, 32, -1, Integer.MIN_VALUE, Integer.MAX_VALUE}) {
                Due.same("broken(" + k + ")", town.broken(k), -1);
            }
        });
    }

    /** Eight and nine, each a ring with jumps of 1 and 2, and three who each know four of both. */
    private static SevenTown twoRingsAndThree() {
        SevenTown town = new SevenTown(20);
        for (int i = 0; i < 17; i++) {
            int first = i < 8 ? 0 : 8;
            int many = i < 8 ? 8 : 9;
            town.tie(i, first + (i - first + 1) % many);
            town.tie(i, first + (i - first + 2) % many);
        }
        for (int one = 17; one < 20; one++) {
            town.most(one, 8);
            for (int i = 0; i < 4; i++) {
                town.tie(one, (one + i) % 8);
                town.tie(one, 8 + (one + i) % 9);
            }
        }
        Due.same("ties", town.all(3), 16 + 18 + 24);
        return town;
    }

    private static void promise19Mend() {
        Due.promise(19, "MEND.");
        Due.term("MEND: the fewest TIES more by which all are joined, nobody above MOST: PARTS"
                + " less 1 (0 with one PART); with more there is none, if a PART has no room, or"
                + " all together not twice as much room as that is (room: MOST less TIES of its"
                + " PEOPLE, together).");
        Due.same("one part", Due.town(5, ROW).mend(), 0);
        Due.same("five parts", new SevenTown(5).mend(), 4);
        Due.same("twenty parts", new SevenTown(20).mend(), 19);
        Due.same("three parts", Due.town(6, "ab,cd,ef").mend(), 2);
        SevenTown full = Due.town(2, "ab");
        full.most(0, 1);
        full.most(1, 1);
        Due.same("one part without room", full.mend(), 0);
        Due.promise(19, "NONE: there is none.");
        SevenTown none = new SevenTown(2);
        none.most(0, 0);
        Due.refused(none, "a has no room", -1, () -> none.mend());
        none.most(0, 1);
        none.most(1, 1);
        Due.same("both have room for one", none.mend(), 1);
    }

    private static void promise19TooLittleRoom() {
        Due.promise(19, "NONE: there is none.");
        SevenTown town = Due.town(6, "ab,cd,ef");
        for (int i = 0; i < 6; i++) {
            town.most(i, 1);
        }
        Due.same("no room at all", town.mend(), -1);
        town.most(0, 2);
        town.most(2, 2);
        town.most(4, 2);
        Due.same("three ends are too few for two ties", town.mend(), -1);
        town.most(1, 2);
        Due.same("four are enough", town.mend(), 2);
        town.most(4, 1);
        town.most(3, 2);
        Due.same("a part without room", town.mend(), -1);
        town.most(0, 9);
        Due.same("however much room others have", town.mend(), -1);
        town.most(5, 2);
        Due.same("room of its other one", town.mend(), 2);
        SevenTown four = new SevenTown(4);
        for (int i = 0; i < 4; i++) {
            four.most(i, 1);
        }
        Due.same("four ends are too few for three ties", four.mend(), -1);
        four.most(3, 2);
        Due.same("five too", four.mend(), -1);
        four.most(2, 2);
        Due.same("six are enough", four.mend(), 3);
        four.most(0, 0);
        four.most(3, 9);
        Due.same("a has no room", four.mend(), -1);
    }
}
