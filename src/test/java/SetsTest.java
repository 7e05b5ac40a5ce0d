/** Promises 31 to 45: rings, images, sets, word, threes, losses. */
public final class SetsTest {
    private static final String TAIL = "ab,bc,ca,cd,de";

    private SetsTest() {
    }

    public static void main(String[] args) {
        ring();
        fine();
        bound();
        imageAndBack();
        set();
        word();
        out();
        begin();
        common();
        likely();
        threes();
        courier();
        loss();
        dear();
        gift();
        Due.report();
    }

    private static void ring() {
        SevenTown town = Due.town(7, "ab,bc");
        Due.same("none", town.ring(0), -1);
        Due.same("above half", town.ring(8), -1);
        Due.same("above ten", town.ring(1024), -1);
        Due.same("above ten", town.ring(1025), -1);
        Due.same("below", town.ring(-1), -1);
        Due.same("below", town.ring(Integer.MIN_VALUE | 1), -1);
        Due.same("nothing changed", town.all(3), 2);
        Due.same("jumps of 3", town.ring(4), 7);
        Due.same("a", Due.knows(town, 0), Due.bits(3, 4));
        Due.same("g", Due.knows(town, 6), Due.bits(2, 3));
        Due.same("all jumps", town.ring(7), 21);
        town.drop(0, 1);
        town.drop(0, 6);
        town.most(0, 4);
        Due.same("a would have six", town.ring(7), -1);
        Due.same("nothing changed", town.all(3), 19);
        Due.same("four are few enough", town.ring(5), 14);
        SevenTown eight = new SevenTown(8);
        Due.same("half of eight", eight.ring(8), 4);
        Due.same("a", Due.knows(eight, 0), Due.bits(4));
        Due.same("seven each", eight.ring(15), 28);
        SevenTown twenty = new SevenTown(20);
        Due.same("half of twenty", twenty.ring(512), 10);
        Due.same("seven each", twenty.ring(512 + 7), 70);
        Due.same("eight each", twenty.ring(15), -1);
        Due.same("two", new SevenTown(2).ring(1), 1);
        Due.same("two", new SevenTown(2).ring(2), -1);
        Due.same("three", new SevenTown(3).ring(1), 3);
    }

    private static void fine() {
        SevenTown six = new SevenTown(6);
        Due.same("one jump", six.fine(1, 0), 1);
        Due.same("its sum", six.fine(1, 1), 9);
        Due.same("three jumps", six.fine(3, 0), 7);
        Due.same("their sum", six.fine(3, 1), 5);
        Due.same("no jumps", six.fine(0, 0), -1);
        Due.same("four", six.fine(4, 0), -1);
        Due.same("no such what", six.fine(1, 2), -1);
        Due.same("no such what", six.fine(1, -1), -1);
        Due.same("too many for four", new SevenTown(4).fine(3, 0), -1);
        Due.same("too many for four", new SevenTown(4).fine(3, 1), -1);
        Due.same("two for four", new SevenTown(4).fine(2, 0), 3);
        SevenTown eight = Due.town(8, "ab");
        eight.most(3, 1);
        // jumps 1 and 3: four are 1 away, three 2 away; 1 and 2: four, two, one 2 away too
        Due.same("lowest bits, whatever most is", eight.fine(2, 0), 3);
        Due.same("sum", eight.fine(2, 1), 10);
        Due.same("ties stay", eight.all(3), 1);
        Due.same("thirteen are all within two", new SevenTown(13).fine(2, 1), 20);
        Due.same("jumps 2 and 3 of 13: lower bits than 1 and 5", new SevenTown(13).fine(2, 0), 6);
    }

    private static void bound() {
        SevenTown twenty = new SevenTown(20);
        Due.same("1", twenty.bound(1), 1 + 18 * 20);
        Due.same("2", twenty.bound(2), 2 * 45 + 10);
        Due.same("3", twenty.bound(3), 3 + 2 * 6 + 3 * 10);
        Due.same("4", twenty.bound(4), 4 + 2 * 12 + 3 * 3);
        Due.same("9", twenty.bound(9), 9 + 2 * 10);
        Due.same("0", twenty.bound(0), -1);
        Due.same("10", twenty.bound(10), -1);
        Due.same("-1", twenty.bound(-1), -1);
        Due.same("two", new SevenTown(2).bound(1), 1);
        Due.same("three", new SevenTown(3).bound(1), 4);
        Due.same("three", new SevenTown(3).bound(9), 2);
    }

    private static void imageAndBack() {
        SevenTown town = Due.town(5, "ab,bc");
        Due.same("no image", town.back(), -1);
        town.most(0, 3);
        Due.text(town, 1, "y:0");
        town.years(0, 0, 2, 1L);
        Due.same("two ties", town.image(), 2);
        town.years(0, 100, 1, 1L);
        town.most(0, 9);
        town.cost(5);
        town.need(0, 1, 4);
        Due.same("back", town.back(), 2);
        Due.same("ties", Due.knows(town, 1), Due.bits(0, 2));
        Due.same("most", town.of(0, 4), 3);
        Due.same("age", town.of(0, 3), 2);
        Due.same("the cost stays", town.count(4), 5);
        Due.same("needs stay", town.count(3), 1);
        town.tie(3, 4);
        Due.same("back again", town.back(), 2);
        town.tie(3, 4);
        Due.same("instead", town.image(), 3);
        town.drop(3, 4);
        Due.same("three", town.back(), 3);
    }

    private static void set() {
        SevenTown town = Due.town(6, TAIL);
        Due.same("circle", town.set(0), Due.bits(0, 1, 2));
        Due.same("apartness", town.set(1), Due.bits(0, 3, 5));
        Due.same("hosts", town.set(2), Due.bits(0, 3, 5));
        Due.same("no such what", town.set(3), -1);
        Due.same("no such what", town.set(-1), -1);
        SevenTown ring = new SevenTown(20);
        ring.ring(1);
        Due.same("circle", ring.set(0), Due.bits(0, 1));
        Due.same("apartness", ring.set(1), 0x55555);
        Due.same("hosts", ring.set(2), Due.bits(0, 2, 5, 8, 11, 14, 17));
        SevenTown alone = new SevenTown(20);
        Due.same("circle of one", alone.set(0), 1);
        Due.same("all apart", alone.set(1), (1 << 20) - 1);
        Due.same("all hosts", alone.set(2), (1 << 20) - 1);
        ring.ring(512);
        Due.same("ten pairs", ring.set(2), (1 << 10) - 1);
        ring.ring(15 - 8);
        Due.same("a circle of four", ring.set(0), 15);
        Due.text(ring, 0, "qs,pt");
        Due.same("a smaller one behind a greater", ring.set(0), Due.bits(15, 19));
        Due.same("apart", ring.set(1), (1 << 18) - 1);
        Due.same("one host", Due.town(6, "ad,bd,cd,ed,fd").set(2), Due.bits(3));
        Due.same("two hosts", Due.town(6, "ad,bd,ce,cf").set(2), Due.bits(2, 3));
        Due.same("a greater one though higher", Due.town(6, "ab,cd,de,ec").set(0),
                Due.bits(2, 3, 4));
    }

    private static void word() {
        SevenTown town = Due.town(6, TAIL);
        Due.same("behind none", town.word(Due.bits(0, 5), 0), Due.bits(0, 5));
        Due.same("behind one", town.word(Due.bits(0, 5), 1), Due.bits(0, 1, 2, 5));
        Due.same("behind two", town.word(Due.bits(0, 5), 2), Due.bits(0, 1, 2, 3, 5));
        Due.same("behind 20", town.word(Due.bits(0), 20), Due.bits(0, 1, 2, 3, 4));
        Due.same("21", town.word(1, 21), -1);
        Due.same("-1", town.word(1, -1), -1);
        Due.same("nobody", town.word(0, 1), -1);
        Due.same("no such one", town.word(64, 1), -1);
        Due.same("no such one", town.word(65, 1), -1);
        Due.same("no such one", town.word(-1, 1), -1);
        Due.same("no such one", town.word(Integer.MIN_VALUE, 1), -1);
        Due.same("everybody", town.word(63, 20), 63);
    }

    private static void out() {
        SevenTown town = Due.town(6, TAIL);
        Due.same("a", town.out(1), 3);
        Due.same("c", town.out(4), 2);
        Due.same("a and e", town.out(Due.bits(0, 4)), 1);
        Due.same("f", town.out(Due.bits(5)), 0);
        Due.same("everybody", town.out(63), 0);
        Due.same("nobody", town.out(0), -1);
        Due.same("no such one", town.out(64), -1);
        Due.same("no such one", town.out(-1), -1);
        SevenTown row = new SevenTown(20);
        row.ring(1);
        row.drop(0, 19);
        Due.same("from end to end", row.out(1), 19);
    }

    private static void begin() {
        SevenTown town = Due.town(6, TAIL);
        Due.same("one", town.begin(1), Due.bits(2));
        Due.same("two", town.begin(2), Due.bits(2, 5));
        Due.same("three: a d f hear all in one round", town.begin(3), Due.bits(0, 3, 5));
        Due.same("none", town.begin(0), -1);
        Due.same("four", town.begin(4), -1);
        Due.same("-1", town.begin(-1), -1);
        Due.same("more than people", new SevenTown(2).begin(3), -1);
        Due.same("as many as people", new SevenTown(2).begin(2), 3);
        Due.same("most ahead of soonest", Due.town(6, "ab,bc,cd,ef").begin(1), Due.bits(1));
    }

    private static void common() {
        SevenTown town = Due.town(6, "ac,ad,bc,bd,be,ae,ab");
        Due.same("three", town.common(0, 1), 3);
        Due.same("c and d", town.common(2, 3), 2);
        Due.same("a and c", town.common(0, 2), 1);
        Due.same("f", town.common(0, 5), 0);
        Due.same("alike", town.common(0, 0), -1);
        Due.same("no such one", town.common(0, 6), -1);
        Due.same("no such one", town.common(-1, 0), -1);
    }

    private static void likely() {
        Due.same("none in common", new SevenTown(4).likely(), 1);
        Due.same("a-b tied", Due.town(4, "ab").likely(), 2);
        Due.same("c and d", Due.town(6, "ac,ad,bc,bd,ab").likely(), 20 * 2 + 3);
        Due.same("of several the lowest", Due.town(6, "ef,ed,fc").likely(), 20 * 2 + 4);
        Due.same("all tied", Due.town(3, "ab,bc,ca").likely(), -1);
    }

    private static void threes() {
        SevenTown town = Due.town(6, TAIL);
        Due.same("closed", town.threes(0), 1);
        Due.same("open", town.threes(1), 3);
        Due.same("share", town.threes(2), 500);
        Due.same("no such what", town.threes(3), -1);
        Due.same("no such what", town.threes(-1), -1);
        Due.same("without both", Due.town(4, "ab,cd").threes(2), 0);
        Due.same("cut", Due.town(6, TAIL + ",df").threes(2), 3000 / 8);
        Due.same("all closed", Due.town(4, "ab,ac,ad,bc,bd,cd").threes(0), 4);
        Due.same("all closed", Due.town(4, "ab,ac,ad,bc,bd,cd").threes(2), 1000);
        Due.same("open alone", Due.town(4, "ab,bc,cd").threes(1), 2);
        Due.same("open alone", Due.town(4, "ab,bc,cd").threes(2), 0);
    }

    private static void courier() {
        SevenTown town = Due.town(6, TAIL);
        Due.same("c", town.courier(0), 2);
        Due.same("by", town.courier(1), 28);
        Due.same("no such what", town.courier(2), -1);
        Due.same("no such what", town.courier(-1), -1);
        Due.same("of several the lowest", new SevenTown(5).courier(0), 0);
        Due.same("none", new SevenTown(5).courier(1), 0);
        Due.same("two", Due.town(2, "ab").courier(1), 0);
        Due.same("a", Due.town(4, "ab,ac,ad").courier(0), 0);
        Due.same("b", Due.town(4, "ba,bc,bd").courier(0), 1);
        Due.same("d", Due.town(4, "da,db,dc").courier(0), 3);
        SevenTown ring = new SevenTown(5);
        ring.ring(1);
        Due.same("a: b and e are three apart then", ring.courier(0), 0);
        Due.same("by", ring.courier(1), 2);
    }

    private static void loss() {
        SevenTown town = Due.town(6, TAIL);
        Due.same("a-b", town.loss(0, 1), 2);
        Due.same("e-d", town.loss(4, 3), 30);
        Due.same("c-d", town.loss(2, 3), 2 * (4 * 6 + 2 * 6 - 2 - 2 - 3 - 3 - 1 - 2 + 0));
        Due.same("not tied", town.loss(0, 3), -1);
        Due.same("no such one", town.loss(0, 6), -1);
        Due.same("alike", town.loss(0, 0), -1);
        Due.same("ties stay", town.all(3), 5);
    }

    private static void dear() {
        Due.same("c-d", Due.town(6, TAIL).dear(0), 20 * 2 + 3);
        Due.same("no ties", new SevenTown(4).dear(0), -1);
        Due.same("no such what", Due.town(6, TAIL).dear(2), -1);
        Due.same("no such what", Due.town(6, TAIL).dear(-1), -1);
        SevenTown ring = new SevenTown(7);
        ring.ring(1);
        Due.same("of several the lowest", ring.dear(0), 1);
        Due.same("of several the lowest", Due.town(7, "fg,cb").dear(0), 21 + 1);
    }

    private static void gift() {
        Due.same("e-f", Due.town(6, TAIL).dear(1), 20 * 2 + 5);
        Due.same("of several the lowest", new SevenTown(4).dear(1), 1);
        Due.same("all are tied", Due.town(3, "ab,bc,ca").dear(1), -1);
        SevenTown town = Due.town(6, TAIL);
        town.most(5, 0);
        Due.same("f may not", town.dear(1), 0 * 20 + 4);
        town.most(0, 2);
        Due.same("nor a", town.dear(1), 20 + 4);
        for (int i = 1; i < 5; i++) {
            town.most(i, Integer.bitCount(Due.knows(town, i)));
        }
        Due.same("none may", town.dear(1), -1);
        Due.same("ties stay", town.all(3), 5);
    }
}
