/** Promises 31 to 45, and the terms of rings, images, sets, word, threes, losses. */
public final class SetsTest {
    private static final String TAIL = "ab,bc,ca,cd,de";
    private static final int[] NOBODY = {6, 7, 20, 32, 38, Integer.MAX_VALUE, -1, -2, -32,
        Integer.MIN_VALUE};
    private static final int[] NO_BITS = {0, 64, 65, 127, 1 << 20, 1 << 30, Integer.MAX_VALUE, -1,
        -64, Integer.MIN_VALUE, Integer.MIN_VALUE | 1};
    private static final int[] NO_WHAT = {2, 3, 32, -1, -2, Integer.MIN_VALUE, Integer.MAX_VALUE};

    private SetsTest() {
    }

    public static void main(String[] args) {
        promise31Ring();
        promise31Refused();
        promise32Fine();
        promise32OfSeveral();
        promise33Bound();
        promise34Image();
        promise35Back();
        promise36Circle();
        promise36Apartness();
        promise36Hosts();
        promise37Word();
        promise38Out();
        promise39Begin();
        promise40Common();
        promise41Likely();
        promise42Threes();
        promise43Courier();
        promise44Loss();
        promise45Dear();
        promise45Gift();
        Due.report();
    }

    private static void promise31Ring() {
        Due.promise(31, "All TIES are a RING's: how many.");
        Due.term("RING with JUMPS (bits 0 .. 9 for 1 .. 10, one at least, none above half of"
                + " PEOPLE): each KNOWS those so many numbers on and back, going round.");
        SevenTown town = Due.town(7, "ab,bc");
        Due.same("jumps of 3", town.ring(4), 7);
        Due.same("a", Due.knows(town, 0), Due.bits(3, 4));
        Due.same("c", Due.knows(town, 2), Due.bits(5, 6));
        Due.same("g", Due.knows(town, 6), Due.bits(2, 3));
        Due.same("all jumps", town.ring(7), 21);
        SevenTown eight = new SevenTown(8);
        Due.same("half of eight", eight.ring(8), 4);
        Due.same("a", Due.knows(eight, 0), Due.bits(4));
        Due.same("h", Due.knows(eight, 7), Due.bits(3));
        Due.same("seven each", eight.ring(15), 28);
        SevenTown twenty = new SevenTown(20);
        for (int jump = 1; jump <= 10; jump++) {
            Due.same("jump " + jump, twenty.ring(1 << jump - 1), jump == 10 ? 10 : 20);
            Due.same("a", Due.knows(twenty, 0), Due.bits(jump, 20 - jump));
            Due.same("t", Due.knows(twenty, 19), Due.bits(jump - 1, 19 - jump));
        }
        Due.same("seven each", twenty.ring(512 + 7), 70);
        Due.same("two", new SevenTown(2).ring(1), 1);
        Due.same("three", new SevenTown(3).ring(1), 3);
        Due.same("nineteen", new SevenTown(19).ring(256), 19);
    }

    private static void promise31Refused() {
        Due.promise(31, "NONE: no such JUMPS, somebody would have more than MOST.");
        SevenTown seven = Due.town(7, "ab,bc");
        int[] none = {0, 8, 9, 512, 1023, 1024, 1025, 1 << 20, -1, -1024, Integer.MIN_VALUE,
            Integer.MIN_VALUE | 1, Integer.MAX_VALUE};
        Due.unchanged(seven, () -> {
            for (int jumps : none) {
                Due.same("ring(" + jumps + ") of 7", seven.ring(jumps), -1);
            }
        });
        Due.same("half is not too much", seven.ring(4), 7);
        for (int people = 2; people <= 20; people++) {
            SevenTown town = new SevenTown(people);
            for (int jump = 1; jump <= 12; jump++) {
                int ties = 2 * jump == people ? people / 2 : people;
                Due.same("jump " + jump + " of " + people, town.ring(1 << jump - 1),
                        2 * jump <= people && jump <= 10 ? ties : -1);
            }
        }
        SevenTown first = new SevenTown(7);
        first.most(0, 5);
        Due.refused(first, "the first one would have six", -1, () -> first.ring(7));
        SevenTown full = new SevenTown(7);
        full.most(6, 5);
        Due.refused(full, "the last one would have six", -1, () -> full.ring(7));
        Due.same("four are few enough", full.ring(5), 14);
        full.most(6, 4);
        Due.same("as many as most", full.ring(6), 14);
        full.drop(6, 1);
        full.most(6, 3);
        Due.refused(full, "four are too many", -1, () -> full.ring(6));
        SevenTown eight = new SevenTown(20);
        Due.refused(eight, "eight each", -1, () -> eight.ring(15));
        Due.same("seven each", eight.ring(512 + 14), 70);
        SevenTown half = new SevenTown(4);
        for (int i = 0; i < 4; i++) {
            half.most(i, 1);
        }
        Due.same("half of four: one each", half.ring(2), 2);
        Due.refused(half, "two each", -1, () -> half.ring(1));
    }

    private static void promise32Fine() {
        Due.promise(32, "FINE: the JUMPS (0), their SUM (1).");
        SevenTown six = new SevenTown(6);
        Due.same("one jump", six.fine(1, 0), 1);
        Due.same("its sum", six.fine(1, 1), 9);
        Due.same("three jumps", six.fine(3, 0), 7);
        Due.same("their sum", six.fine(3, 1), 5);
        Due.same("two for four", new SevenTown(4).fine(2, 0), 3);
        Due.same("one for two", new SevenTown(2).fine(1, 0), 1);
        Due.same("its sum", new SevenTown(2).fine(1, 1), 1);
        Due.promise(32, "NONE: no such ones.");
        SevenTown town = Due.town(6, TAIL);
        Due.unchanged(town, () -> {
            for (int many : new int[] {0, 4, 5, -1, Integer.MIN_VALUE, Integer.MAX_VALUE}) {
                Due.same("fine(" + many + ", 0)", town.fine(many, 0), -1);
                Due.same("fine(" + many + ", 1)", town.fine(many, 1), -1);
            }
        });
        Due.unchanged(town, () -> {
            for (int what : NO_WHAT) {
                Due.same("fine(1, " + what + ")", town.fine(1, what), -1);
            }
        });
        for (int what = 0; what < 2; what++) {
            Due.same("three for five", new SevenTown(5).fine(3, what), -1);
            Due.same("two for three", new SevenTown(3).fine(2, what), -1);
            Due.same("two for two", new SevenTown(2).fine(2, what), -1);
        }
        town.fine(3, 1);
        Due.same("ties stay", town.all(3), 5);
    }

    private static void promise32OfSeveral() {
        Due.term("FINE of so many JUMPS (1 .. 3): of all RINGS with as many the one with the"
                + " least SUM of one (of several the lowest bits).");
        SevenTown eight = Due.town(8, "ab");
        eight.most(3, 1);
        // jumps 1 and 3: four are 1 away, three 2 away; 1 and 2: four, two, one 2 away too
        Due.same("lowest bits, whatever most is", eight.fine(2, 0), 3);
        Due.same("sum", eight.fine(2, 1), 10);
        Due.same("thirteen are all within two", new SevenTown(13).fine(2, 1), 20);
        Due.same("jumps 2 and 3 of 13: lower bits than 1 and 5", new SevenTown(13).fine(2, 0), 6);
        SevenTown four = new SevenTown(4);
        Due.same("1 of 4 comes to all, 2 does not", four.fine(1, 0), 1);
        Due.same("1 and 1 and 2", four.fine(1, 1), 4);
        SevenTown twenty = new SevenTown(20);
        Due.same("of twenty, one", twenty.fine(1, 0), 1);
        Due.same("its sum", twenty.fine(1, 1), 100);
    }

    private static void promise33Bound() {
        Due.promise(33, "BOUND.");
        Due.term("BOUND of so many TIES (1 .. 9): the least that a SUM can be, by counts: 1 away"
                + " are as many at most, then each time as many times that less 1 (with 1 TIE"
                + " none), till all are there (PEOPLE for each that can't be).");
        SevenTown twenty = new SevenTown(20);
        Due.same("1", twenty.bound(1), 1 + 18 * 20);
        Due.same("2", twenty.bound(2), 2 * 45 + 10);
        Due.same("3", twenty.bound(3), 3 + 2 * 6 + 3 * 10);
        Due.same("4", twenty.bound(4), 4 + 2 * 12 + 3 * 3);
        Due.same("5", twenty.bound(5), 5 + 2 * 14);
        Due.same("8", twenty.bound(8), 8 + 2 * 11);
        Due.same("9", twenty.bound(9), 9 + 2 * 10);
        Due.same("two, one tie", new SevenTown(2).bound(1), 1);
        Due.same("two, nine ties", new SevenTown(2).bound(9), 1);
        Due.same("three, one tie", new SevenTown(3).bound(1), 4);
        Due.same("three, nine ties", new SevenTown(3).bound(9), 2);
        Due.same("ten, nine ties", new SevenTown(10).bound(9), 9);
        Due.same("eleven, nine ties", new SevenTown(11).bound(9), 11);
        Due.same("ten, three ties: all there", new SevenTown(10).bound(3), 3 + 2 * 6);
        Due.same("eleven, three ties: one more", new SevenTown(11).bound(3), 3 + 2 * 6 + 3);
        Due.same("four, two ties", new SevenTown(4).bound(2), 1 + 1 + 2);
        Due.promise(33, "NONE: no such number.");
        SevenTown town = Due.town(6, TAIL);
        Due.unchanged(town, () -> {
            for (int ties : new int[] {0, 10, 11, -1, Integer.MIN_VALUE, Integer.MAX_VALUE}) {
                Due.same("bound(" + ties + ")", town.bound(ties), -1);
            }
        });
    }

    private static void promise34Image() {
        Due.promise(34, "An IMAGE (instead of the one ahead): how many TIES.");
        SevenTown town = Due.town(5, "ab,bc");
        Due.same("two ties", town.image(), 2);
        town.tie(3, 4);
        Due.same("ties stay", town.all(3), 3);
        Due.same("instead", town.image(), 3);
        town.drop(3, 4);
        town.drop(0, 1);
        Due.same("the last one", town.back(), 3);
        Due.text(town, 0, "");
        Due.same("of no ties", town.image(), 0);
        town.ring(1);
        Due.same("no ties", town.back(), 0);
        Due.same("none", town.all(3), 0);
    }

    private static void promise35Back() {
        Due.promise(35, "BACK: how many TIES.");
        Due.term("An IMAGE keeps TIES, MOST, AGES; BACK: they are so again.");
        SevenTown town = Due.town(5, "ab,bc", "y:0");
        town.most(0, 3);
        town.years(0, 0, 2, 1L);
        town.image();
        town.years(0, 100, 1, 1L);
        town.most(0, 9);
        town.cost(5);
        town.need(0, 1, 4);
        Due.text(town, 1, "y:1");
        Due.feed(town, "ab");
        Due.same("back", town.back(), 2);
        Due.same("a", Due.knows(town, 0), Due.bits(1));
        Due.same("b", Due.knows(town, 1), Due.bits(0, 2));
        Due.same("c", Due.knows(town, 2), Due.bits(1));
        Due.same("most", town.of(0, 4), 3);
        Due.same("most", town.of(4, 4), 7);
        for (int one = 0; one < 5; one++) {
            Due.same("age", town.of(one, 3), 2);
        }
        Due.same("the cost stays", town.count(4), 5);
        Due.same("needs stay", town.count(3), 1);
        Due.same("rules stay", town.count(1), 2);
        Due.same("the tape stays", town.count(2), 2);
        town.tie(3, 4);
        Due.same("back again", town.back(), 2);
        Due.same("d", Due.knows(town, 3), 0);
        town.most(3, 0);
        Due.same("back", town.back(), 2);
        Due.yes("room again", town.tie(3, 4));
        SevenTown turned = new SevenTown(3);
        turned.need(0, 1, 9);
        turned.need(1, 0, 9);
        turned.image();
        turned.turn();
        turned.fine(1, 0);
        Due.same("turns and rings leave the image", turned.back(), 0);
        Due.promise(35, "NONE: no IMAGE.");
        SevenTown none = Due.town(5, "ab,bc");
        Due.refused(none, "no image", -1, () -> none.back());
        none.turn();
        Due.refused(none, "a turn makes none", -1, () -> none.back());
    }

    private static void promise36Circle() {
        Due.promise(36, "CIRCLE (0), APARTNESS (1), HOSTS (2), as bits.");
        Due.term("CIRCLE: the most PEOPLE of whom each KNOWS each;");
        Due.same("circle", Due.town(6, TAIL).set(0), Due.bits(0, 1, 2));
        Due.same("of one", new SevenTown(20).set(0), 1);
        Due.same("of two", Due.town(2, "ab").set(0), 3);
        Due.same("the last two", Due.town(20, "st").set(0), Due.bits(18, 19));
        SevenTown ring = new SevenTown(20);
        ring.ring(1);
        Due.same("of a ring", ring.set(0), Due.bits(0, 1));
        ring.ring(7);
        Due.same("of four", ring.set(0), 15);
        Due.text(ring, 0, "qs,pt");
        Due.same("a smaller one behind a greater", ring.set(0), Due.bits(15, 19));
        Due.same("a greater one though higher", Due.town(6, "ab,cd,de,ec").set(0),
                Due.bits(2, 3, 4));
        Due.same("where two first differ: a d e ahead of b c f",
                Due.town(6, "bc,cf,fb,ad,de,ea").set(0), Due.bits(0, 3, 4));
        Due.same("a b f ahead of a c d", Due.town(6, "ac,cd,da,ab,bf,fa").set(0),
                Due.bits(0, 1, 5));
        SevenTown all = new SevenTown(10);
        for (int i = 0; i < 10; i++) {
            all.most(i, 9);
        }
        all.ring(31);
        Due.same("all", all.set(0), 1023);
        Due.promise(36, "NONE: no such what.");
        SevenTown town = Due.town(6, TAIL);
        Due.unchanged(town, () -> {
            for (int what : new int[] {3, 4, 32, -1, Integer.MIN_VALUE, Integer.MAX_VALUE}) {
                Due.same("set(" + what + ")", town.set(what), -1);
            }
        });
    }

    private static void promise36Apartness() {
        Due.term("APARTNESS: the most of whom none KNOWS another one;");
        Due.same("apart", Due.town(6, TAIL).set(1), Due.bits(0, 3, 5));
        Due.same("all apart", new SevenTown(20).set(1), (1 << 20) - 1);
        Due.same("of two", Due.town(2, "ab").set(1), 1);
        SevenTown ring = new SevenTown(20);
        ring.ring(1);
        Due.same("of a ring", ring.set(1), 0x55555);
        Due.same("all but two", Due.town(20, "qs,pt").set(1), (1 << 18) - 1);
        Due.same("not the hub", Due.town(6, "ab,ac,ad,ae,af").set(1), 62);
        Due.same("where two first differ", Due.town(6, "ab,cd,ef").set(1), Due.bits(0, 2, 4));
        SevenTown all = new SevenTown(10);
        for (int i = 0; i < 10; i++) {
            all.most(i, 9);
        }
        all.ring(31);
        Due.same("all are a circle", all.set(0), 1023);
        Due.same("one of all tied", all.set(1), 1);
        Due.same("and one host", all.set(2), 1);
        Due.text(all, 0, "");
        Due.same("no ties, all apart", all.set(1), 1023);
        Due.same("no ties, a circle of one", all.set(0), 1);
    }

    private static void promise36Hosts() {
        Due.term("HOSTS: the fewest so that everybody else KNOWS one of them; each time, of"
                + " several sets as great, that with the lower one where two first differ.");
        Due.same("hosts", Due.town(6, TAIL).set(2), Due.bits(0, 3, 5));
        Due.same("all", new SevenTown(20).set(2), (1 << 20) - 1);
        Due.same("of two", Due.town(2, "ab").set(2), 1);
        Due.same("of two apart", new SevenTown(2).set(2), 3);
        SevenTown ring = new SevenTown(20);
        ring.ring(1);
        Due.same("of a ring", ring.set(2), Due.bits(0, 2, 5, 8, 11, 14, 17));
        ring.ring(512);
        Due.same("ten pairs", ring.set(2), (1 << 10) - 1);
        Due.same("one host", Due.town(6, "ad,bd,cd,ed,fd").set(2), Due.bits(3));
        Due.same("two hosts", Due.town(6, "ad,bd,ce,cf").set(2), Due.bits(2, 3));
        Due.same("the last one", Due.town(4, "da,db,dc").set(2), Due.bits(3));
        Due.same("all but one", Due.town(20, "st").set(2), (1 << 19) - 1);
        Due.same("a d ahead of b c", Due.town(5, "ab,ac,dc,de,be").set(2), Due.bits(0, 3));
    }

    private static void promise37Word() {
        Due.promise(37, "Who have HEARD behind so many rounds (0 .. 20), as bits.");
        Due.term("WORD from some (bits): they have HEARD behind 0 rounds; in each round all who"
                + " KNOW one that has HEARD ahead of it HEAR;");
        SevenTown town = Due.town(6, TAIL);
        Due.same("behind none", town.word(Due.bits(0, 5), 0), Due.bits(0, 5));
        Due.same("behind one", town.word(Due.bits(0, 5), 1), Due.bits(0, 1, 2, 5));
        Due.same("behind two", town.word(Due.bits(0, 5), 2), Due.bits(0, 1, 2, 3, 5));
        Due.same("behind 20", town.word(1, 20), Due.bits(0, 1, 2, 3, 4));
        Due.same("everybody", town.word(63, 20), 63);
        Due.same("everybody at once", town.word(63, 0), 63);
        SevenTown row = new SevenTown(20);
        row.ring(1);
        row.drop(0, 19);
        for (int rounds = 0; rounds <= 20; rounds++) {
            Due.same("behind " + rounds, row.word(1, rounds),
                    (1 << Math.min(rounds, 19) + 1) - 1);
        }
        Due.same("the last one", row.word(1 << 19, 0), 1 << 19);
        Due.same("all", row.word((1 << 20) - 1, 0), (1 << 20) - 1);
        Due.promise(37, "NONE: no such ones (bits, not 0).");
        Due.unchanged(town, () -> {
            for (int rounds : new int[] {-1, 21, 22, Integer.MIN_VALUE, Integer.MAX_VALUE}) {
                Due.same("word(1, " + rounds + ")", town.word(1, rounds), -1);
            }
        });
        Due.unchanged(town, () -> {
            for (int from : NO_BITS) {
                Due.same("word(" + from + ", 1)", town.word(from, 1), -1);
                Due.same("word(" + from + ", 0)", town.word(from, 0), -1);
            }
        });
        Due.same("a 21st", row.word(1 << 20, 1), -1);
        Due.same("a 21st with all", row.word((1 << 21) - 1, 1), -1);
    }

    private static void promise38Out() {
        Due.promise(38, "Behind how many rounds WORD is OUT.");
        Due.term("it is OUT behind the last round in which somebody HEARS for the first time.");
        SevenTown town = Due.town(6, TAIL);
        Due.same("a", town.out(1), 3);
        Due.same("c", town.out(4), 2);
        Due.same("a and e", town.out(Due.bits(0, 4)), 1);
        Due.same("f, who knows nobody", town.out(Due.bits(5)), 0);
        Due.same("everybody", town.out(63), 0);
        Due.same("all who can", town.out(31), 0);
        SevenTown row = new SevenTown(20);
        row.ring(1);
        row.drop(0, 19);
        Due.same("from end to end", row.out(1), 19);
        Due.same("from the other end", row.out(1 << 19), 19);
        Due.same("from both", row.out(1 | 1 << 19), 9);
        Due.promise(38, "NONE: no such ones (bits, not 0).");
        Due.unchanged(town, () -> {
            for (int from : NO_BITS) {
                Due.same("out(" + from + ")", town.out(from), -1);
            }
        });
    }

    private static void promise39Begin() {
        Due.promise(39, "BEGINNERS, as bits.");
        Due.term("BEGINNERS (1 .. 3): the set of so many from which most HEAR at last; of these"
                + " the one OUT in the fewest rounds; of several that with the lower one where"
                + " two first differ.");
        SevenTown town = Due.town(6, TAIL);
        Due.same("one", town.begin(1), Due.bits(2));
        Due.same("two", town.begin(2), Due.bits(2, 5));
        Due.same("three: a d f hear all in one round", town.begin(3), Due.bits(0, 3, 5));
        Due.same("most ahead of soonest", Due.town(6, "ab,bc,cd,ef").begin(1), Due.bits(1));
        Due.same("of several", new SevenTown(5).begin(1), 1);
        Due.same("of several", new SevenTown(5).begin(2), 3);
        Due.same("of several", new SevenTown(5).begin(3), 7);
        Due.same("the last three", Due.town(9, "ga,gb,hc,hd,ie,if").begin(3), Due.bits(6, 7, 8));
        SevenTown row = new SevenTown(20);
        row.ring(1);
        Due.same("a d ahead of b c of a ring", row.begin(2), Due.bits(0, 9));
        Due.same("the last three of twenty", Due.town(20,
                "ra,rb,rc,rd,re,rf,sg,sh,si,sj,sk,sl,tm,tn,to,tp,tq").begin(3),
                Due.bits(17, 18, 19));
        Due.same("as many as people", new SevenTown(2).begin(2), 3);
        Due.same("as many as people, tied", Due.town(2, "ab").begin(2), 3);
        Due.same("as many as people", new SevenTown(3).begin(3), 7);
        Due.same("as many as people, tied", Due.town(3, "ab,ac").begin(3), 7);
        Due.promise(39, "NONE: no such number (more than PEOPLE, too).");
        Due.same("more than people", new SevenTown(2).begin(3), -1);
        Due.same("four of three", new SevenTown(3).begin(4), -1);
        Due.unchanged(town, () -> {
            for (int many : new int[] {0, 4, 5, 20, 32, -1, Integer.MIN_VALUE, Integer.MAX_VALUE}) {
                Due.same("begin(" + many + ")", town.begin(many), -1);
            }
        });
    }

    private static void promise40Common() {
        Due.promise(40, "COMMON.");
        Due.term("COMMON of two: how many both KNOW.");
        SevenTown town = Due.town(6, "ac,ad,bc,bd,be,ae,ab");
        Due.same("three, tied", town.common(0, 1), 3);
        Due.same("c and d", town.common(2, 3), 2);
        Due.same("a and c", town.common(0, 2), 1);
        Due.same("f", town.common(0, 5), 0);
        Due.promise(40, "NONE: no such ones, alike.");
        for (int one = 0; one < 6; one++) {
            Due.same("alike", town.common(one, one), -1);
        }
        Due.unchanged(town, () -> {
            for (int one : NOBODY) {
                Due.same("common(" + one + ", 0)", town.common(one, 0), -1);
                Due.same("common(0, " + one + ")", town.common(0, one), -1);
            }
        });
    }

    private static void promise41Likely() {
        Due.promise(41, "LIKELY: 20 times the first and the other.");
        Due.term("LIKELY: the two, not tied, with most in COMMON (of several the lowest first"
                + " one, then other one, the first the lower).");
        Due.same("none in common", new SevenTown(4).likely(), 1);
        Due.same("a-b tied", Due.town(4, "ab").likely(), 2);
        Due.same("c and d", Due.town(6, "ac,ad,bc,bd,ab").likely(), 20 * 2 + 3);
        Due.same("of several the lowest", Due.town(6, "ef,ed,fc").likely(), 20 * 2 + 4);
        Due.same("lowest first one, then other", Due.town(6, "af,fd,fb,cf").likely(), 1);
        Due.same("two are more than one", Due.town(6, "ab,bc,df,ef,da,ea").likely(), 5);
        Due.same("c and f have two, a and c one", Due.town(6, "ab,bc,cd,ce,df,ef").likely(), 45);
        Due.same("the last two", Due.town(20, "sa,ta").likely(), 20 * 18 + 19);
        Due.promise(41, "NONE: all are tied.");
        SevenTown all = Due.town(3, "ab,bc,ca");
        Due.refused(all, "three", -1, () -> all.likely());
        Due.same("two", Due.town(2, "ab").likely(), -1);
        Due.same("two not tied", new SevenTown(2).likely(), 1);
        Due.same("one tie less", Due.town(3, "ab,bc").likely(), 2);
    }

    private static void promise42Threes() {
        Due.promise(42, "CLOSED (0), OPEN (1), SHARE (2).");
        Due.term("CLOSED: sets of three of whom each KNOWS each; OPEN: sets of three of whom just"
                + " two pairs KNOW each other; SHARE: 1,000 times 3 times CLOSED by 3 times"
                + " CLOSED and OPEN, cut (0 without both).");
        SevenTown town = Due.town(6, TAIL);
        Due.same("closed", town.threes(0), 1);
        Due.same("open", town.threes(1), 3);
        Due.same("share", town.threes(2), 500);
        Due.same("without both", Due.town(4, "ab,cd").threes(2), 0);
        Due.same("without both", new SevenTown(2).threes(2), 0);
        Due.same("of two", Due.town(2, "ab").threes(0), 0);
        Due.same("of two", Due.town(2, "ab").threes(1), 0);
        Due.same("cut", Due.town(6, TAIL + ",df").threes(2), 3000 / 8);
        Due.same("cut", Due.town(6, "ab,bc,ca,ad,be,cf").threes(2), 3000 / 9);
        Due.same("all closed", Due.town(4, "ab,ac,ad,bc,bd,cd").threes(0), 4);
        Due.same("none open", Due.town(4, "ab,ac,ad,bc,bd,cd").threes(1), 0);
        Due.same("all closed", Due.town(4, "ab,ac,ad,bc,bd,cd").threes(2), 1000);
        Due.same("open alone", Due.town(4, "ab,bc,cd").threes(1), 2);
        Due.same("open alone", Due.town(4, "ab,bc,cd").threes(2), 0);
        SevenTown ten = new SevenTown(10);
        for (int i = 0; i < 10; i++) {
            ten.most(i, 9);
        }
        ten.ring(31);
        Due.same("ten of all tied", ten.threes(0), 120);
        Due.promise(42, "NONE: no such what.");
        Due.unchanged(town, () -> {
            for (int what : new int[] {3, 4, 32, -1, Integer.MIN_VALUE, Integer.MAX_VALUE}) {
                Due.same("threes(" + what + ")", town.threes(what), -1);
            }
        });
    }

    private static void promise43Courier() {
        Due.promise(43, "COURIER: the one (0), by how much (1).");
        Due.term("COURIER: of each FAR of all others to one another together (each pair twice;"
                + " PEOPLE where there is no way), once over it and all, once without it, how"
                + " much more it is without it; the one with the most (of several the lowest);"
                + " and how much.");
        SevenTown town = Due.town(6, TAIL);
        Due.same("c", town.courier(0), 2);
        Due.same("by", town.courier(1), 28);
        Due.same("of several the lowest", new SevenTown(5).courier(0), 0);
        Due.same("by nothing", new SevenTown(5).courier(1), 0);
        Due.same("two", Due.town(2, "ab").courier(0), 0);
        Due.same("two", Due.town(2, "ab").courier(1), 0);
        Due.same("a", Due.town(4, "ab,ac,ad").courier(0), 0);
        Due.same("three pairs, from 2 to 4, twice", Due.town(4, "ab,ac,ad").courier(1), 12);
        Due.same("b", Due.town(4, "ba,bc,bd").courier(0), 1);
        Due.same("d", Due.town(4, "da,db,dc").courier(0), 3);
        Due.same("c ahead of d", Due.town(6, "ac,cb,ed,df").courier(0), 2);
        SevenTown ring = new SevenTown(5);
        ring.ring(1);
        Due.same("a: b and e are three apart then", ring.courier(0), 0);
        Due.same("by", ring.courier(1), 2);
        Due.promise(43, "NONE: no such what.");
        Due.unchanged(town, () -> {
            for (int what : NO_WHAT) {
                Due.same("courier(" + what + ")", town.courier(what), -1);
            }
        });
    }

    private static void promise44Loss() {
        Due.promise(44, "LOSS of a TIE.");
        Due.term("LOSS of a TIE: how much the SUMS of all together grow, if it goes;");
        SevenTown town = Due.town(6, TAIL);
        Due.same("a-b", town.loss(0, 1), 2);
        Due.same("b-a", town.loss(1, 0), 2);
        Due.same("e-d", town.loss(4, 3), 30);
        Due.same("c-d", town.loss(2, 3), 2 * (4 * 6 + 2 * 6 - 2 - 2 - 3 - 3 - 1 - 2 + 0));
        Due.same("of two", Due.town(2, "ab").loss(0, 1), 2);
        Due.same("ties stay", town.all(3), 5);
        Due.promise(44, "NONE: no such TIE.");
        Due.refused(town, "not tied", -1, () -> town.loss(0, 3));
        Due.refused(town, "alike", -1, () -> town.loss(0, 0));
        Due.unchanged(town, () -> {
            for (int one : NOBODY) {
                Due.same("loss(" + one + ", 0)", town.loss(one, 0), -1);
                Due.same("loss(1, " + one + ")", town.loss(1, one), -1);
            }
        });
    }

    private static void promise45Dear() {
        Due.promise(45, "DEAR (0), GIFT (1): 20 times the first and the other.");
        Due.term("DEAR: the TIE with the greatest (of several the lowest first one, then the"
                + " other one, the first the lower).");
        Due.same("c-d", Due.town(6, TAIL).dear(0), 20 * 2 + 3);
        SevenTown ring = new SevenTown(7);
        ring.ring(1);
        Due.same("of several the lowest", ring.dear(0), 1);
        Due.same("of several the lowest", Due.town(7, "fg,cb").dear(0), 21 + 1);
        Due.same("lowest first one, then other", Due.town(7, "ac,ab,ad").dear(0), 1);
        Due.same("the last two", Due.town(20, "ts").dear(0), 20 * 18 + 19);
        Due.promise(45, "NONE: no TIES; none can be, none makes them fall; no such what.");
        SevenTown none = new SevenTown(4);
        Due.refused(none, "no ties", -1, () -> none.dear(0));
        SevenTown town = Due.town(6, TAIL);
        Due.unchanged(town, () -> {
            for (int what : NO_WHAT) {
                Due.same("dear(" + what + ")", town.dear(what), -1);
            }
        });
        town.dear(0);
        town.dear(1);
        Due.same("ties stay", town.all(3), 5);
    }

    private static void promise45Gift() {
        Due.term("GIFT: the TIE more (both below MOST) by which the SUMS of all together fall"
                + " most, likewise.");
        Due.same("e-f", Due.town(6, TAIL).dear(1), 20 * 2 + 5);
        Due.same("of several the lowest", new SevenTown(4).dear(1), 1);
        Due.same("of two apart", new SevenTown(2).dear(1), 1);
        Due.same("lowest first one, then other", Due.town(5, "ab,bc,cd,da").dear(1), 4);
        SevenTown town = Due.town(6, TAIL);
        town.most(5, 0);
        Due.same("f may not", town.dear(1), 4);
        town.most(0, 2);
        Due.same("nor a", town.dear(1), 20 + 4);
        town.most(1, 3);
        Due.same("b may have one more", town.dear(1), 20 + 4);
        town.most(4, 1);
        Due.same("nor e", town.dear(1), 20 + 3);
        Due.promise(45, "NONE: no TIES; none can be, none makes them fall; no such what.");
        for (int i = 1; i < 5; i++) {
            town.most(i, Integer.bitCount(Due.knows(town, i)));
        }
        Due.refused(town, "none may", -1, () -> town.dear(1));
        town.most(5, 9);
        Due.same("f may, but nobody else", town.dear(1), -1);
        Due.same("all are tied", Due.town(3, "ab,bc,ca").dear(1), -1);
        Due.same("two tied", Due.town(2, "ab").dear(1), -1);
    }
}
