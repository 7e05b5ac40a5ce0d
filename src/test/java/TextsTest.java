/** Promises 1 to 5 and 46, and the terms of texts: a new object, the tape, faults, counts. */
public final class TextsTest {
    private TextsTest() {
    }

    public static void main(String[] args) {
        constants();
        promise1NewObject();
        lettersOfPeople();
        promise2Feed();
        promise2MoreThan200();
        promise3End();
        promise3RefusedEnd();
        promise4Fault();
        faultsOfNets();
        nobodyInNets();
        mostInNets();
        faultsOfRules();
        faultsOfSums();
        faultsOfConditions();
        blanks();
        depthOfRules();
        promise5Net();
        promise5Rule();
        promise5Refused();
        fullTape();
        promise46Count();
        lastCall();
        Due.report();
    }

    private static void constants() {
        Due.same("NONE", SevenTown.NONE, -1);
        Due.same("HIDDEN", SevenTown.HIDDEN, -1000000);
    }

    private static void promise1NewObject() {
        Due.promise(1, "So many PEOPLE (the nearest number that may be), without TIES.");
        int[] asked = {Integer.MIN_VALUE, -20, -1, 0, 1, 2, 3, 19, 20, 21, 34, Integer.MAX_VALUE};
        int[] due = {2, 2, 2, 2, 2, 2, 3, 19, 20, 20, 20, 20};
        for (int i = 0; i < asked.length; i++) {
            SevenTown town = new SevenTown(asked[i]);
            Due.same("count(0) of " + asked[i], town.count(0), due[i]);
            Due.same("ties at first", town.all(3), 0);
            Due.same("nobody more", Due.knows(town, due[i]), -2);
            for (int one = 0; one < due[i]; one++) {
                Due.same("whom one knows at first", Due.knows(town, one), 0);
                Due.same("most at first", town.of(one, 4), 7);
                Due.same("age at first", town.of(one, 3), 0);
            }
            Due.same("cost at first", town.count(4), 0);
            Due.same("needs at first", town.count(3), 0);
            Due.same("rules at first", town.count(1), 0);
            Due.same("bytes at first", town.count(2), 0);
            Due.same("back at first", town.back(), -1);
        }
    }

    private static void lettersOfPeople() {
        Due.term("PEOPLE (as many as the constructor says, 2 .. 20) have numbers 0 .. and letters"
                + " a .. t.");
        for (int people = 2; people <= 20; people++) {
            char last = (char) ('a' + people - 1);
            SevenTown town = Due.town(people, "a" + last);
            Due.same("a", Due.knows(town, 0), 1 << people - 1);
            Due.same("the last one", Due.knows(town, people - 1), 1);
            Due.same("one more", Due.fault(town, 0, "a" + (char) (last + 1)), 1);
            Due.same("the sign ahead of a", Due.fault(town, 0, "`a"), 0);
            Due.same("great letters are nobody's", Due.fault(town, 0, "AB"), 0);
        }
        Due.term("A TIE is between two; they KNOW each other then.");
        SevenTown town = new SevenTown(3);
        town.tie(2, 0);
        Due.same("a", Due.knows(town, 0), Due.bits(2));
        Due.same("b", Due.knows(town, 1), 0);
        Due.same("c", Due.knows(town, 2), Due.bits(0));
    }

    private static void promise2Feed() {
        Due.promise(2, "Twenty bytes more come to the TAPE (of each number the highest first;"
                + " bytes of 0 are left out): how many it has.");
        SevenTown town = new SevenTown(4);
        Due.same("nothing fed", town.feed(0, 0, 0, 0, 0), 0);
        Due.same("zeros left out", town.feed(0x61620000, 0, 0x002c0000, 0x62, 0x00006300), 5);
        Due.same("ab,bc", town.text(0), 2);
        Due.same("b knows", Due.knows(town, 1), Due.bits(0, 2));
        Due.same("highest first", town.feed(0x61622c63, 0x642c6163, 0, 0, 0), 8);
        Due.same("ab,cd,ac", town.text(0), 3);
        Due.same("a knows", Due.knows(town, 0), Due.bits(1, 2));
        Due.same("twenty", town.feed(0x61622c62, 0x632c6364, 0x2c646120, 0x20202020, 0x20202020),
                20);
        Due.same("more comes behind", town.feed(0, 0, 0, 0, 0x21), 21);
        Due.same("the 21st", town.fault(0), 20);
        town.end(0);
        Due.same("numbers below 0 are bytes too", town.feed(-1, 0x80000000, 0, 0, 0xff), 6);
        Due.same("no letter", town.fault(0), 0);
        town.end(0);
        Due.same("ends of an int", town.feed(Integer.MIN_VALUE, Integer.MAX_VALUE, 0, 0, 0), 5);
    }

    private static SevenTown fed(int bytes) {
        SevenTown town = new SevenTown(4);
        Due.feed(town, " ".repeat(bytes));
        return town;
    }

    private static void promise2MoreThan200() {
        Due.promise(2, "NONE: more than 200.");
        SevenTown town = new SevenTown(4);
        int four = 0x20202020;
        for (int i = 1; i <= 10; i++) {
            Due.same("twenty more", town.feed(four, four, four, four, four), 20 * i);
        }
        for (int place = 0; place < 20; place++) {
            int one = 1 << place % 4 * 8;
            int which = place / 4;
            SevenTown there = fed(200);
            Due.refused(there, "one byte more at place " + place, -1, () -> there.feed(
                    which == 0 ? one : 0, which == 1 ? one : 0, which == 2 ? one : 0,
                    which == 3 ? one : 0, which == 4 ? one : 0));
        }
        SevenTown full = fed(200);
        Due.refused(full, "201", -1, () -> full.feed(0, 0, 0, 0, 1));
        Due.same("no byte is still fed", full.feed(0, 0, 0, 0, 0), 200);
        SevenTown almost = fed(199);
        Due.refused(almost, "two more than 199", -1, () -> almost.feed(0x20000020, 0, 0, 0, 0));
        Due.same("one more than 199", almost.feed(0, 0, 0, 0, 0x00200000), 200);
        SevenTown twenty = fed(181);
        Due.refused(twenty, "twenty more than 181", -1,
                () -> twenty.feed(four, four, four, four, four));
        Due.same("nineteen more than 181", twenty.feed(four, four, four, four, 0x20202000), 200);
        Due.same("all blanks are a net", twenty.fault(0), -1);
        Due.same("all blanks are no rule", twenty.fault(1), 200);
        SevenTown kept = new SevenTown(4);
        Due.feed(kept, "ab" + " ".repeat(185));
        Due.refused(kept, "twenty more than 187", -1,
                () -> kept.feed(four, four, four, four, four));
        Due.same("nothing of it came", kept.text(0), 1);
    }

    private static void promise3End() {
        Due.promise(3, "The TAPE has its first n bytes alone.");
        SevenTown town = new SevenTown(4);
        Due.yes("nothing of nothing", town.end(0));
        Due.feed(town, "ab,bc,cd");
        Due.yes("all", town.end(8));
        Due.same("8", town.count(2), 8);
        Due.yes("all but one", town.end(7));
        Due.same("7", town.count(2), 7);
        Due.yes("five", town.end(5));
        Due.same("what follows comes behind", town.feed(0x2c640000, 0x61000000, 0, 0, 0), 8);
        Due.same("ab,bc,da", town.text(0), 3);
        Due.same("d", Due.knows(town, 3), Due.bits(0));
        Due.feed(town, "ab");
        Due.yes("none", town.end(0));
        Due.same("0", town.count(2), 0);
        SevenTown full = fed(200);
        Due.yes("200", full.end(200));
        Due.same("200", full.count(2), 200);
    }

    private static void promise3RefusedEnd() {
        Due.promise(3, "False: n.");
        SevenTown town = new SevenTown(4);
        Due.refused(town, "end(1) of nothing", () -> town.end(1));
        Due.refused(town, "end(-1) of nothing", () -> town.end(-1));
        Due.feed(town, "ab,bc,cd");
        Due.unchanged(town, () -> {
            for (int n : new int[] {9, 10, 200, 201, -1, -8, Integer.MIN_VALUE,
                    Integer.MAX_VALUE}) {
                Due.no("end(" + n + ") of 8", town.end(n));
            }
        });
        town.end(5);
        Due.refused(town, "what is gone is gone", () -> town.end(6));
        Due.same("ab,bc", town.text(0), 2);
    }

    private static void promise4Fault() {
        SevenTown town = new SevenTown(4);
        Due.promise(4, "The FAULT of the TAPE as a NET (0), a RULE (1).");
        Due.same("a net", Due.fault(town, 0, "ab,ba"), 4);
        Due.same("the same as a rule", town.fault(1), 0);
        Due.same("a rule", Due.fault(town, 1, "y:1;"), 4);
        Due.same("the same as a net", town.fault(0), 0);
        Due.same("fault leaves the tape", town.count(2), 4);
        Due.promise(4, "NONE: none.");
        Due.same("a net", Due.fault(town, 0, "ab,bc"), -1);
        Due.same("it is not tied yet", town.all(3), 0);
        Due.same("a rule", Due.fault(town, 1, "y:1"), -1);
        Due.same("there is none yet", town.count(1), 0);
        Due.promise(4, "-2: no such sort.");
        Due.unchanged(town, () -> {
            for (int sort : new int[] {2, 3, -1, -2, Integer.MIN_VALUE, Integer.MAX_VALUE}) {
                Due.same("fault(" + sort + ")", town.fault(sort), -2);
            }
        });
    }

    private static void net(int people, String text, int due) {
        Due.same("net <" + text + ">", Due.fault(new SevenTown(people), 0, text), due);
    }

    private static void faultsOfNets() {
        Due.term("NETS are TEXTS: TIES with , between, none or more: two PEOPLE's letters.");
        net(4, "", -1);
        net(4, "ab", -1);
        net(4, "ba", -1);
        net(4, "ab,cd", -1);
        net(4, "ab,ac,ad,bc,bd,cd", -1);
        net(20, "ta,ts", -1);
        net(4, ",", 0);
        net(4, ",ab", 0);
        net(4, "ab,,cd", 3);
        net(4, "abcd", 2);
        net(4, "ab;cd", 2);
        net(4, "a,", 1);
        net(4, "a,b", 1);
        net(4, "ab.", 2);
        Due.term("FAULT: the first byte at which no such TEXT can go on (the length, if it ends"
                + " too early);");
        net(4, "a", 1);
        net(4, "a ", 2);
        net(4, "ab,", 3);
        net(4, "ab, ", 4);
        net(4, "ab,c", 4);
        net(4, "ab,cx,aa", 4);
        net(4, "ab,xc,aa", 3);
        net(4, "abx,aa", 2);
    }

    private static void nobodyInNets() {
        Due.term("in a NET a letter that is no one's, a second letter alike the first, or tied"
                + " with it already, or by which one of both would have more than MOST, is wrong"
                + " at the second letter (a first that is no one's at it).");
        net(4, "ae", 1);
        net(4, "ea", 0);
        net(4, "ee", 0);
        net(4, "e", 0);
        net(4, "ab,e", 3);
        net(4, "ab,ce", 4);
        net(20, "tu", 1);
        net(20, "u", 0);
        net(20, "za", 0);
        net(4, "a1", 1);
        net(4, "a`", 1);
        net(4, "a\tb", 1);
        net(4, "\u00e1b", 0);
        net(4, "a\u00ff", 1);
        net(4, "\u0081b", 0);
        net(4, "aa", 1);
        net(4, "a a", 2);
        net(4, "ab,bb", 4);
        net(4, "ab,ba", 4);
        net(4, "ab,ab", 4);
        net(4, "ab,cd,ab", 7);
    }

    private static void mostInNets() {
        SevenTown town = new SevenTown(11);
        Due.same("seven ties", Due.fault(town, 0, "ab,ac,ad,ae,af,ag,ah"), -1);
        Due.same("an eighth of the first", Due.fault(town, 0, "ab,ac,ad,ae,af,ag,ah,ai"), 22);
        Due.same("an eighth of the second", Due.fault(town, 0, "ab,ac,ad,ae,af,ag,ah,ia"), 22);
        town.most(0, 2);
        town.most(1, 0);
        Due.same("two ties of a", Due.fault(town, 0, "ac,da"), -1);
        Due.same("a third tie of a", Due.fault(town, 0, "ac,ad,ae"), 7);
        Due.same("a third tie to a", Due.fault(town, 0, "ac,ad,ea"), 7);
        Due.same("b may have none", Due.fault(town, 0, "cb"), 1);
        Due.same("b may have none", Due.fault(town, 0, "bc"), 1);
        Due.same("a first letter is not asked for its most", Due.fault(town, 0, "b"), 1);
        Due.same("nor with a fault behind it", Due.fault(town, 0, "ac,ad,a"), 7);
        town.tie(0, 5);
        town.tie(0, 6);
        Due.same("ties that are there are not of the text", Due.fault(town, 0, "ac,da"), -1);
        town.most(2, 9);
        Due.same("nine", Due.fault(town, 0, "ca,cd,ce,cf,cg,ch,ci,cj,ck"), -1);
        Due.same("a second letter ahead of its most: alike", Due.fault(town, 0, "bb"), 1);
    }

    private static void rule(String text, int due) {
        Due.same("rule <" + text + ">", Due.fault(new SevenTown(4), 1, text), due);
    }

    private static void faultsOfRules() {
        Due.term("RULES (6 at most) are TEXTS: CLAUSES with ; between, one at least: y, : ,"
                + " perhaps CONDITION ?, then SUM.");
        rule("", 0);
        rule(" ", 1);
        rule("y", 1);
        rule("y:", 2);
        rule("x", 0);
        rule("Y:1", 0);
        rule("y1", 1);
        rule("y;", 1);
        rule("y:1", -1);
        rule("y:;", 2);
        rule("y:?1", 2);
        rule("y:1;", 4);
        rule(";y:1", 0);
        rule("y:1;y:2", -1);
        rule("y:1;;", 4);
        rule("y:1;1", 4);
        rule("y:1y:2", 3);
        rule("y:1,y:2", 3);
        rule("y:1;y", 5);
        rule("y:1;y:", 6);
        rule("y:1=2?3;y:4=5?6;y:7", -1);
        rule("y:1;y:2;y:3;", 12);
        rule("y:1?2", 3);
        rule("y:1=2?", 6);
        rule("y:1=2?;", 6);
        rule("y:1=2?3?4", 7);
        rule("y:1=2?3=4", 7);
        rule("y:1=2?3=4?5", 7);
        rule("y:\u00a01", 2);
        rule("y:1\n", 3);
        Due.term("(A CLAUSE that goes on with ! or ( behind its : has a CONDITION.)");
        rule("y:(1)", 4);
        rule("y:(1+2)*3", 6);
        rule("y:(1=2)", 7);
        rule("y:!1", 4);
        rule("y:!1=2", 6);
        rule("y:1;y:(2)", 8);
        rule("y:1;y:!2;", 8);
    }

    private static void faultsOfSums() {
        Due.term("SUM: TERMS with + or - between; TERM: ATOMS with * or / between; ATOM: a number"
                + " (1 to 4 digits), a letter (t f k c b a d o r), [ SUM ].");
        rule("y:t+f-k*c/b+a-d+o+r", -1);
        for (char sign = 33; sign < 127; sign++) {
            boolean known = "tfkcbador".indexOf(sign) >= 0 || sign >= '0' && sign <= '9';
            boolean opens = "([!".indexOf(sign) >= 0;
            rule("y:" + sign, known ? -1 : opens ? 3 : 2);
            rule("y:1" + sign, "+-*/=<>;".indexOf(sign) >= 0 ? 4
                    : sign >= '0' && sign <= '9' ? -1 : 3);
        }
        rule("y:1234", -1);
        rule("y:0", -1);
        rule("y:0000", -1);
        rule("y:1k", 3);
        rule("y:kk", 3);
        rule("y:k1", 3);
        rule("y:-1", 2);
        rule("y:+", 2);
        rule("y:1+", 4);
        rule("y:1+;", 4);
        rule("y:1+*", 4);
        rule("y:1**2", 4);
        rule("y:1--2", 4);
        rule("y:[1]", -1);
        rule("y:[1+2]*[3]", -1);
        rule("y:[]", 3);
        rule("y:[1", 4);
        rule("y:[1)", 4);
        rule("y:[1;", 4);
        rule("y:[1=2]", 4);
        rule("y:[(", 3);
        rule("y:[!", 3);
        rule("y:1+(", 4);
        rule("y:1+!", 4);
        rule("y:1]", 3);
        rule("y:1)", 3);
        rule("y:1[", 3);
        Due.term("a fifth digit, a seventh of these are such;");
        rule("y:12345", 6);
        rule("y:00000", 6);
        rule("y:123456", 6);
        rule("y:1+12345", 8);
        rule("y:[12345]", 7);
        rule("y:1=12345?1", 8);
        rule("y:[[[[[[[", 8);
        rule("y:(((((((", 8);
        rule("y:!!!!!!!", 8);
    }

    private static void faultsOfConditions() {
        Due.term("CONDITION: TRUTHS with | between; TRUTH: UNITS with & between; UNIT: ! UNIT, ("
                + " CONDITION ), or SUM, one of = < >, SUM.");
        rule("y:1=2", 5);
        rule("y:1=2;", 5);
        rule("y:1=2?3", -1);
        rule("y:1<2?3", -1);
        rule("y:1>2?3", -1);
        rule("y:1<2=3", 5);
        rule("y:1==2", 4);
        rule("y:1<>2", 4);
        rule("y:=1", 2);
        rule("y:1=?", 4);
        rule("y:1=2&3", 7);
        rule("y:1=2&3?", 7);
        rule("y:1=2&3>4?5", -1);
        rule("y:1=2|3<4&5>6?7", -1);
        rule("y:1=2||", 6);
        rule("y:1=2&&", 6);
        rule("y:1=2&|", 6);
        rule("y:|1=2", 2);
        rule("y:&1=2", 2);
        rule("y:1&2=3?1", 3);
        rule("y:1|2=3?1", 3);
        rule("y:1=2&?", 6);
        rule("y:!1=2?3", -1);
        rule("y:!?", 3);
        rule("y:(1=2)?3", -1);
        rule("y:(1=2)=3", 7);
        rule("y:(1=2)+3", 7);
        rule("y:(1=2", 6);
        rule("y:(1=2]", 6);
        rule("y:(1=2?", 6);
        rule("y:(1=2;", 6);
        rule("y:()", 3);
        rule("y:(1=2|3=4)&5=6?7", -1);
        rule("y:((1=2)|(3=4))?7", -1);
        rule("y:1=!", 4);
        rule("y:1=(", 4);
        rule("y:1=2!", 5);
        rule("y:1=2?(", 6);
        rule("y:1=2?!", 6);
        rule("y:1=2&!(3=4|5=6)&[7]=8?9", -1);
        rule("y:[1+2]*3=4?5", -1);
        rule("y:![1]<[2]?[3]", -1);
    }

    private static void blanks() {
        Due.term("Blanks (32) may stand between all signs of both, not within numbers;");
        net(4, "   ", -1);
        net(4, " a b , c d ", -1);
        net(4, "  a  b  ,  c  d  ", -1);
        net(4, " ,ab", 1);
        net(4, "ab cd", 3);
        net(4, " e", 1);
        net(4, "a  e", 3);
        rule(" y : 1 ", -1);
        rule("  y  :  !  (  1  =  2  |  t  <  3  &  k  >  4  )  ?  [  5  ]  *  6  ;  y  :  7  ",
                -1);
        rule("y:1 2", 4);
        rule("y:12 34", 5);
        rule("y:1 ", -1);
        rule("y:1 ;", 5);
        rule("y: ", 3);
        rule("y:[ 1", 5);
        rule("y:1 = ", 6);
        rule("y:1 = 2 ", 8);
        rule("y:1\t", 3);
    }

    private static void depthOfRules() {
        Due.term("at most six of ( [ ! within one another.");
        rule("y:[[[[[[1]]]]]]", -1);
        rule("y:[[[[[[[1]]]]]]]", 8);
        rule("y:((((((1=1))))))?1", -1);
        rule("y:(((((((1=1", 8);
        rule("y:!!!!!!1=1?1", -1);
        rule("y:!!!!!!!1=1?1", 8);
        rule("y:!(!(!([", 8);
        rule("y:!(!(!((", 8);
        rule("y:!(!(!(!", 8);
        rule("y:!(!(!(1", 9);
        rule("y:((((([1]=1)))))?1", -1);
        rule("y:(((((([1]=1", 8);
        rule("y:((((((1=[", 10);
        rule("y:!(!([[1]]=[[1]]))?[[[[[[1]]]]]]", -1);
        rule("y:!(!([[[", 8);
        rule("y:!(!([[1]]=[[[", 14);
        rule("y:!!!!!!1=1&!!!!!!1=1?1", -1);
        rule("y:!!!!!!1=1&!!!!!!!", 18);
        rule("y:!!!!!!1=1|!!!!!!!", 18);
        rule("y:!!!!!!1=[", 10);
        rule("y:!!!!!!(", 8);
        rule("y:!!!!!![", 8);
        rule("y:!!!!!(!", 8);
        rule("y:!!!!!(1=1)?1", -1);
        rule("y:!!!!![1]=[1]?1", -1);
        rule("y:!1=1|!1=1|!1=1|!1=1|!1=1|!1=1|!1=1|[1]=1?1", -1);
        rule("y:!!!1=1&[[[[[[1]]]]]]=1?1", -1);
        rule("y:!!!1=1&([[[[[[1]]]]]]=1?1", 15);
        rule("y:1=[[[[[[2]]]]]]?[[[[[[2]]]]]]", -1);
        rule("y:[[[[[[1]]]]]]+[[[[[[2]]]]]]*[[[[[[3]]]]]]", -1);
        rule("y:[[[[[[1]]]]]];y:[[[[[[2]]]]]]", -1);
        rule("y:[[[[[[1]]]]]];y:[[[[[[[", 24);
    }

    private static void promise5Net() {
        Due.promise(5, "The TAPE (empty then; if refused it stays) is the NET (all TIES as"
                + " there): how many TIES; a RULE: its number.");
        SevenTown town = new SevenTown(5);
        Due.same("two ties", Due.text(town, 0, "ab, bc"), 2);
        Due.same("the tape is empty", town.count(2), 0);
        Due.same("b", Due.knows(town, 1), Due.bits(0, 2));
        Due.same("all ties as there", Due.text(town, 0, "de"), 1);
        Due.same("b then", Due.knows(town, 1), 0);
        Due.same("d then", Due.knows(town, 3), Due.bits(4));
        Due.same("an empty tape: no ties", town.text(0), 0);
        Due.same("d at last", Due.knows(town, 3), 0);
        town.tie(0, 1);
        Due.same("blanks alone: no ties", Due.text(town, 0, "  "), 0);
        Due.same("a at last", Due.knows(town, 0), 0);
        Due.same("the tape is empty", town.count(2), 0);
        town.most(0, 1);
        town.most(1, 1);
        town.tie(0, 1);
        Due.same("ties ahead of it don't count", Due.text(town, 0, "ac,bd"), 2);
        Due.same("a", Due.knows(town, 0), Due.bits(2));
    }

    private static void promise5Rule() {
        SevenTown town = Due.town(5, "ab");
        for (int i = 0; i < 6; i++) {
            Due.same("a rule's number", Due.text(town, 1, "y:" + i), i);
            Due.same("rules", town.count(1), i + 1);
            Due.same("the tape is empty", town.count(2), 0);
        }
        Due.same("ties stay", town.all(3), 1);
        Due.promise(5, "NONE: a FAULT, no such sort, there are six.");
        Due.feed(town, "y:7");
        Due.refused(town, "a seventh", -1, () -> town.text(1));
        Due.same("no fault", town.fault(1), -1);
        Due.same("a net is taken still", Due.text(town, 0, "ab,bc"), 2);
    }

    private static void promise5Refused() {
        SevenTown town = Due.town(5, "de", "y:t");
        Due.feed(town, "ab,aa");
        Due.refused(town, "a fault", -1, () -> town.text(0));
        Due.refused(town, "a net is no rule", -1, () -> town.text(1));
        Due.unchanged(town, () -> {
            for (int sort : new int[] {2, -1, Integer.MIN_VALUE, Integer.MAX_VALUE}) {
                Due.same("text(" + sort + ")", town.text(sort), -1);
            }
        });
        Due.feed(town, "ab");
        Due.refused(town, "no such sort, though a net", -1, () -> town.text(2));
        Due.same("the tape stays", town.text(0), 1);
        SevenTown other = Due.town(5, "de", "y:t");
        Due.feed(other, "y:1;");
        Due.refused(other, "a rule with a fault", -1, () -> other.text(1));
        Due.feed(other, "y:1");
        Due.refused(other, "a rule is no net", -1, () -> other.text(0));
        Due.same("the tape stays", other.text(1), 1);
        other.end(0);
        Due.refused(other, "an empty tape is no rule", -1, () -> other.text(1));
    }

    /** Texts of 200 bytes: the most ties and the most clauses that a tape can tell. */
    private static void fullTape() {
        SevenTown town = new SevenTown(20);
        StringBuilder net = new StringBuilder();
        int[] ties = new int[20];
        for (int i = 0; i < 20; i++) {
            town.most(i, 9);
            for (int j = i + 1; j < 20 && net.length() < 200; j++) {
                if (ties[i] < 9 && ties[j] < 9) {
                    net.append(net.length() > 0 ? "," : "").append((char) ('a' + i));
                    net.append((char) ('a' + j));
                    ties[i]++;
                    ties[j]++;
                }
            }
        }
        Due.same("200 bytes", net.length(), 200);
        Due.same("67 ties", Due.text(town, 0, net.toString()), 67);
        Due.same("67 ties", town.all(3), 67);
        SevenTown two = Due.town(4, "ac,ab,bd,cd");
        Due.same("24 clauses that do not hold, and one", Due.text(two, 1,
                "y:1=2?3;".repeat(24) + "y:0-a   "), 0);
        Due.same("the 25th", two.send(0, 0, 3, 1), 2);
        Due.same("49 clauses", Due.text(two, 1, "y:0-a;" + "y:1;".repeat(47) + "y:1"), 1);
        Due.same("the first", two.send(1, 0, 3, 1), 2);
        Due.same("95 atoms", Due.text(two, 1, "y:a=1?95;y:" + "1+".repeat(94) + "1"), 2);
        Due.same("95 is no less than 95", two.send(2, 0, 3, 1), 1);
        Due.same("95 atoms", Due.text(two, 1, "y:a=1?96;y:" + "1+".repeat(94) + "1"), 3);
        Due.same("95 is less than 96", two.send(3, 0, 3, 1), 2);
        Due.same("200 bytes that end too early", Due.fault(two, 1, "y:" + "1+".repeat(99)), 200);
        Due.same("200 bytes of a rule", Due.fault(two, 1, "y:" + "1+".repeat(98) + "12"), -1);
        Due.same("a net of 200 bytes too early", Due.fault(two, 0, " ".repeat(199) + "a"), 200);
    }

    private static void promise46Count() {
        Due.promise(46, "0 PEOPLE, 1 RULES, 2 bytes of the TAPE, 3 NEEDS, 4 COST.");
        SevenTown town = new SevenTown(9);
        town.need(0, 1, 5);
        town.need(1, 0, 5);
        town.cost(42);
        Due.text(town, 1, "y:1");
        Due.feed(town, "abcde");
        Due.same("people", town.count(0), 9);
        Due.same("rules", town.count(1), 1);
        Due.same("bytes", town.count(2), 5);
        Due.same("needs", town.count(3), 2);
        Due.same("cost", town.count(4), 42);
        Due.promise(46, "HIDDEN for others.");
        Due.unchanged(town, () -> {
            for (int what : new int[] {5, 6, -1, Integer.MIN_VALUE, Integer.MAX_VALUE}) {
                Due.same("count(" + what + ")", town.count(what), -1000000);
            }
        });
    }

    /** An object is used for 512 calls: the last of them is as the document says still. */
    private static void lastCall() {
        SevenTown town = new SevenTown(20);
        for (int call = 1; call < 512; call++) {
            Due.yes("call " + call, call % 2 == 1 ? town.tie(0, 19) : town.drop(19, 0));
        }
        Due.same("the 512th call", Due.knows(town, 19), Due.bits(0));
    }
}
