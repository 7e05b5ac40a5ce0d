/** Promises 1 to 5 and 46: a new object, the tape, its faults, its texts, the counts. */
public final class TextsTest {
    private TextsTest() {
    }

    public static void main(String[] args) {
        newObject();
        feed();
        end();
        faultOfNets();
        faultOfRules();
        depthOfRules();
        text();
        count();
        constants();
        Due.report();
    }

    private static void constants() {
        Due.same("NONE", SevenTown.NONE, -1);
        Due.same("HIDDEN", SevenTown.HIDDEN, -1000000);
    }

    private static void newObject() {
        int[] asked = {Integer.MIN_VALUE, -1, 0, 1, 2, 3, 19, 20, 21, Integer.MAX_VALUE};
        int[] due = {2, 2, 2, 2, 2, 3, 19, 20, 20, 20};
        for (int i = 0; i < asked.length; i++) {
            SevenTown town = new SevenTown(asked[i]);
            Due.same("count(0) of " + asked[i], town.count(0), due[i]);
            Due.same("ties at first", town.all(3), 0);
            Due.same("nobody more", Due.knows(town, due[i]), -2);
            Due.same("the last one", Due.knows(town, due[i] - 1), 0);
            Due.same("most at first", town.of(due[i] - 1, 4), 7);
            Due.same("age at first", town.of(0, 3), 0);
            Due.same("cost at first", town.count(4), 0);
            Due.same("needs at first", town.count(3), 0);
            Due.same("rules at first", town.count(1), 0);
            Due.same("bytes at first", town.count(2), 0);
            Due.same("back at first", town.back(), -1);
        }
    }

    private static void feed() {
        SevenTown town = new SevenTown(4);
        Due.same("nothing fed", town.feed(0, 0, 0, 0, 0), 0);
        Due.same("highest first", town.feed(0x61620000, 0, 0x002c0000, 0x62, 0x00006300), 5);
        Due.same("ab,bc", town.text(0), 2);
        Due.same("b knows", Due.knows(town, 1), Due.bits(0, 2));
        Due.same("negative numbers are bytes too", town.feed(-1, 0x80000000, 0, 0, 0xff), 6);
        Due.same("no letter", town.fault(0), 0);
        town.end(0);
        int full = 0x20202020;
        for (int i = 1; i <= 10; i++) {
            Due.same("twenty more", town.feed(full, full, full, full, full), 20 * i);
        }
        Due.same("201", town.feed(0, 0, 0, 0, 1), -1);
        Due.same("201", town.feed(1 << 31, 0, 0, 0, 0), -1);
        Due.same("201", town.feed(0, 1 << 16, 0, 0, 0), -1);
        Due.same("201", town.feed(0, 0, 1, 0, 0), -1);
        Due.same("201", town.feed(0, 0, 0, 1 << 8, 0), -1);
        Due.same("no byte is still fed", town.feed(0, 0, 0, 0, 0), 200);
        Due.same("nothing changed", town.count(2), 200);
        town.end(199);
        Due.same("two more than 199", town.feed(0x01000001, 0, 0, 0, 0), -1);
        Due.same("still 199", town.count(2), 199);
        Due.same("one more", town.feed(0, 0, 0, 0, 0x00200000), 200);
        Due.same("all blanks are a net", town.fault(0), -1);
        Due.same("all blanks are no rule", town.fault(1), 200);
    }

    private static void end() {
        SevenTown town = new SevenTown(4);
        Due.yes("end(0)", town.end(0));
        Due.no("end(1)", town.end(1));
        Due.no("end(-1)", town.end(-1));
        Due.feed(town, "ab,bc,cd");
        Due.no("end(9)", town.end(9));
        Due.yes("end(8)", town.end(8));
        Due.same("8", town.count(2), 8);
        Due.yes("end(5)", town.end(5));
        Due.no("end(8) then", town.end(8));
        Due.same("5", town.count(2), 5);
        Due.same("ab,bc", town.text(0), 2);
        Due.no("end(min)", town.end(Integer.MIN_VALUE));
        Due.no("end(max)", town.end(Integer.MAX_VALUE));
    }

    private static void net(int people, String text, int due) {
        Due.same("net <" + text + ">", Due.fault(new SevenTown(people), 0, text), due);
    }

    private static void faultOfNets() {
        net(4, "", -1);
        net(4, "   ", -1);
        net(4, "ab", -1);
        net(4, "ba", -1);
        net(4, " a b , c d ", -1);
        net(4, "a", 1);
        net(4, "a ", 2);
        net(4, "ab,", 3);
        net(4, "ab, ", 4);
        net(4, ",", 0);
        net(4, " ,ab", 1);
        net(4, "ab,,cd", 3);
        net(4, "abcd", 2);
        net(4, "ab cd", 3);
        net(4, "ab;cd", 2);
        net(4, "aa", 1);
        net(4, "a a", 2);
        net(4, "ab,ba", 4);
        net(4, "ab,cd,ab", 7);
        net(4, "ea", 0);
        net(4, "ae", 1);
        net(4, "ee", 0);
        net(4, "AB", 0);
        net(4, "a,", 1);
        net(4, "a1", 1);
        net(4, "ab,e", 3);
        net(20, "ta,ts", -1);
        net(20, "tu", 1);
        net(20, "u", 0);
        net(4, "a\tb", 1);
        net(4, "\u00e1b", 0);
        SevenTown town = new SevenTown(10);
        town.most(0, 2);
        town.most(1, 0);
        Due.same("a third tie of a", Due.fault(town, 0, "ac,ad,ae"), 7);
        Due.same("a third tie to a", Due.fault(town, 0, "ac,ad,ea"), 7);
        Due.same("b may have none", Due.fault(town, 0, "cb"), 1);
        Due.same("a first letter is not asked for its most", Due.fault(town, 0, "b"), 1);
        Due.same("two ties of a", Due.fault(town, 0, "ac,da"), -1);
        town.tie(0, 5);
        town.tie(0, 6);
        Due.same("ties that are there do not count", Due.fault(town, 0, "ac,da"), -1);
        Due.same("fault leaves the tape", town.count(2), 5);
        Due.same("no such sort", town.fault(2), -2);
        Due.same("no such sort", town.fault(-1), -2);
        Due.same("no such sort", town.fault(Integer.MIN_VALUE), -2);
        SevenTown seven = new SevenTown(10);
        Due.same("an eighth tie", Due.fault(seven, 0, "ab,ac,ad,ae,af,ag,ah,ai"), 22);
    }

    private static void rule(String text, int due) {
        Due.same("rule <" + text + ">", Due.fault(new SevenTown(4), 1, text), due);
    }

    private static void faultOfRules() {
        rule("", 0);
        rule(" ", 1);
        rule("y", 1);
        rule("y:", 2);
        rule("x", 0);
        rule("Y:1", 0);
        rule("y1", 1);
        rule("y:1", -1);
        rule(" y : 1 ", -1);
        rule("y:;", 2);
        rule("y:1;", 4);
        rule("y:1;y:2", -1);
        rule("y:1;;", 4);
        rule("y:1;1", 4);
        rule("y:1,y:2", 3);
        rule("y:t+f-k*c/b+a-d+o+r", -1);
        rule("y:y", 2);
        rule("y:e", 2);
        rule("y:1234", -1);
        rule("y:12345", 6);
        rule("y:0000", -1);
        rule("y:00000", 6);
        rule("y:1 2", 4);
        rule("y:1k", 3);
        rule("y:kk", 3);
        rule("y:k1", 3);
        rule("y:-1", 2);
        rule("y:+", 2);
        rule("y:1+", 4);
        rule("y:1+*", 4);
        rule("y:1**2", 4);
        rule("y:1?2", 3);
        rule("y:1=2", 5);
        rule("y:1=2;", 5);
        rule("y:1=2?", 6);
        rule("y:1=2?3", -1);
        rule("y:1<2=3", 5);
        rule("y:1=2?3=4", 7);
        rule("y:1=2?3?4", 7);
        rule("y:1=2&3", 7);
        rule("y:1=2&3>4?5", -1);
        rule("y:1=2|3<4&5>6?7", -1);
        rule("y:1=2||", 6);
        rule("y:1&2=3?1", 3);
        rule("y:!1=2?3", -1);
        rule("y:!1", 4);
        rule("y:!?", 3);
        rule("y:(1=2)?3", -1);
        rule("y:(1)", 4);
        rule("y:(1=2)", 7);
        rule("y:(1=2)=3", 7);
        rule("y:(1=2", 6);
        rule("y:()", 3);
        rule("y:[1]", -1);
        rule("y:[]", 3);
        rule("y:[1", 4);
        rule("y:[1)", 4);
        rule("y:[1=2]", 4);
        rule("y:[(", 3);
        rule("y:1+(", 4);
        rule("y:1+!", 4);
        rule("y:1=!", 4);
        rule("y:1=2?(", 6);
        rule("y:1=2?!", 6);
        rule("y:1=2&!(3=4|5=6)&[7]=8?9", -1);
        rule("y:[1+2]*3=4?5", -1);
        rule("y:1]", 3);
        rule("y:1)", 3);
        rule("y:\u00a01", 2);
        rule("y:1\n", 3);
    }

    private static void depthOfRules() {
        rule("y:[[[[[[1]]]]]]", -1);
        rule("y:[[[[[[[1]]]]]]]", 8);
        rule("y:((((((1=1))))))?1", -1);
        rule("y:(((((((1=1", 8);
        rule("y:!!!!!!1=1?1", -1);
        rule("y:!!!!!!!1=1?1", 8);
        rule("y:!(!(!([", 8);
        rule("y:!(!(!(1", 9);
        rule("y:!(!([[1]]=[[1]]))?[[[[[[1]]]]]]", -1);
        rule("y:!(!([[[", 8);
        rule("y:!!!!!!1=1&!!!!!!1=1?1", -1);
        rule("y:!!!!!!1=[", 10);
        rule("y:!1=1|!1=1|!1=1|!1=1|!1=1|!1=1|!1=1|[1]=1?1", -1);
        rule("y:!!!1=1&[[[[[[1]]]]]]=1?1", -1);
        rule("y:!!!1=1&([[[[[[1]]]]]]=1?1", 15);
        rule("y:1=[[[[[[2]]]]]]?[[[[[[2]]]]]]", -1);
    }

    private static void text() {
        SevenTown town = new SevenTown(5);
        Due.same("two ties", Due.text(town, 0, "ab, bc"), 2);
        Due.same("the tape is empty", town.count(2), 0);
        Due.same("b", Due.knows(town, 1), Due.bits(0, 2));
        Due.same("all ties as there", Due.text(town, 0, "de"), 1);
        Due.same("b then", Due.knows(town, 1), 0);
        Due.same("d then", Due.knows(town, 3), Due.bits(4));
        Due.same("a fault", Due.text(town, 0, "ab,aa"), -1);
        Due.same("nothing changed", Due.knows(town, 3), Due.bits(4));
        Due.same("the tape stays", town.count(2), 5);
        Due.same("a net is no rule", town.text(1), -1);
        Due.same("no such sort", town.text(2), -1);
        Due.same("no such sort", town.text(-1), -1);
        Due.same("the tape still stays", town.count(2), 5);
        Due.same("no ties", Due.text(town, 0, " "), 0);
        Due.same("d at last", Due.knows(town, 3), 0);
        for (int i = 0; i < 6; i++) {
            Due.same("a rule's number", Due.text(town, 1, "y:" + i), i);
            Due.same("rules", town.count(1), i + 1);
            Due.same("the tape is empty", town.count(2), 0);
        }
        Due.same("a seventh", Due.text(town, 1, "y:7"), -1);
        Due.same("the tape stays", town.count(2), 3);
        Due.same("no fault", town.fault(1), -1);
        Due.same("six", town.count(1), 6);
        Due.same("a net is taken still", Due.text(town, 0, "ab"), 1);
        SevenTown refusing = new SevenTown(5);
        Due.same("a rule with a fault", Due.text(refusing, 1, "y:1;"), -1);
        Due.same("no rule", refusing.count(1), 0);
    }

    private static void count() {
        SevenTown town = new SevenTown(9);
        town.need(0, 1, 5);
        town.need(1, 0, 5);
        town.cost(42);
        Due.text(town, 1, "y:1");
        Due.feed(town, "abc");
        Due.same("people", town.count(0), 9);
        Due.same("rules", town.count(1), 1);
        Due.same("bytes", town.count(2), 3);
        Due.same("needs", town.count(3), 2);
        Due.same("cost", town.count(4), 42);
        Due.same("others", town.count(5), -1000000);
        Due.same("others", town.count(-1), -1000000);
        Due.same("others", town.count(Integer.MAX_VALUE), -1000000);
    }
}
