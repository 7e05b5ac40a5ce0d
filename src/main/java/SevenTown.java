import java.util.Arrays;
import java.util.NoSuchElementException;

/**
 * A town in which nobody may know more than so many. Sets of people are bits of an int: bit i is
 * the one with number i. All room is made with the object; no call makes an array or an object.
 */
public final class SevenTown {
    public static final int NONE = -1;
    public static final int HIDDEN = -1000000;

    private static final int FEWEST_PEOPLE = 2;
    private static final int MOST_PEOPLE = 20;
    private static final int MOST_BYTES = 200;
    private static final int MOST_RULES = 6;
    private static final int MOST_NEEDS = 60;
    private static final int MOST_MUCH = 99;
    private static final int MOST_COST = 99;
    private static final int MOST_TIES = 9;
    private static final int FIRST_MOST = 7;
    private static final int MOST_JUMP = 10;
    private static final int MOST_CHOSEN = 3;
    private static final int MOST_ROUNDS = 20;
    private static final int MOST_YEARS = 30;
    private static final int HUNDRED = 100;
    private static final int SETS_OF_CHOSEN = 1140;

    private final int people;
    private final Net net;
    private final Net image;
    private final Net spare;
    private final Paths paths;
    private final Losses losses;
    private final Sets sets;
    private final Tape tape;
    private final NetText netText;
    private final RuleText ruleText;
    private final Rules rules;
    private final Market market;
    private final Post post;
    private final Ages ages;
    private boolean imageKept;

    public SevenTown(int people) {
        this.people = Math.max(FEWEST_PEOPLE, Math.min(MOST_PEOPLE, people));
        this.net = new Net(this.people);
        this.image = new Net(this.people);
        this.spare = new Net(this.people);
        this.paths = new Paths(net);
        this.losses = new Losses(net);
        this.sets = new Sets(net);
        this.tape = new Tape();
        this.netText = new NetText(tape, net);
        this.ruleText = new RuleText(tape);
        this.rules = new Rules();
        this.market = new Market(net);
        this.post = new Post(net, rules);
        this.ages = new Ages(net, rules, market);
    }

    public int feed(int a, int b, int c, int d, int e) {
        int more = Tape.filled(a) + Tape.filled(b) + Tape.filled(c) + Tape.filled(d)
                + Tape.filled(e);
        if (tape.length + more > MOST_BYTES) {
            return NONE;
        }
        tape.add(a);
        tape.add(b);
        tape.add(c);
        tape.add(d);
        tape.add(e);
        return tape.length;
    }

    public boolean end(int n) {
        if (n < 0 || n > tape.length) {
            return false;
        }
        tape.length = n;
        return true;
    }

    public int fault(int sort) {
        if (sort == 0) {
            return netText.read();
        }
        return sort == 1 ? ruleText.read() : -2;
    }

    public int text(int sort) {
        if (sort == 0 && netText.read() == NONE) {
            tape.length = 0;
            System.arraycopy(netText.rows, 0, net.ties, 0, MOST_PEOPLE);
            return net.tieCount();
        }
        if (sort == 1 && rules.number < MOST_RULES && ruleText.read() == NONE) {
            tape.length = 0;
            return rules.add(ruleText.code, ruleText.size);
        }
        return NONE;
    }

    public boolean most(int one, int v) {
        if (!net.has(one) || v < 0 || v > MOST_TIES || v < net.degree(one)) {
            return false;
        }
        net.limit[one] = v;
        return true;
    }

    public boolean tie(int one, int other) {
        if (!net.hasTwo(one, other) || net.tied(one, other) || net.full(one) || net.full(other)) {
            return false;
        }
        net.join(one, other);
        return true;
    }

    public boolean drop(int one, int other) {
        if (!net.tied(one, other)) {
            return false;
        }
        net.part(one, other);
        return true;
    }

    public int knows(int one) throws NoSuchElementException {
        if (!net.has(one)) {
            throw new NoSuchElementException("no such one");
        }
        return net.ties[one];
    }

    public int far(int one, int other) {
        return net.has(one) && net.has(other) ? net.distance(one, other, net.everybody) : NONE;
    }

    public long ways(int one, int other) {
        return far(one, other) == NONE ? NONE : paths.waysBetween(one, other);
    }

    public int over(int one, int other, int what) {
        if (far(one, other) == NONE) {
            return NONE;
        }
        if (what == 0) {
            return paths.onAll(one, other);
        }
        return what == 1 ? paths.onSome(one, other) : NONE;
    }

    public int of(int one, int what) {
        if (!net.has(one)) {
            return NONE;
        }
        switch (what) {
            case 0: return net.sumOf(one);
            case 1: return net.reached(1 << one, net.everybody);
            case 2: return losses.cutBy(one);
            case 3: return net.age[one];
            case 4: return net.limit[one];
            default: return NONE;
        }
    }

    public int all(int what) {
        switch (what) {
            case 0: return net.widest();
            case 1: return losses.parts();
            case 2: return losses.keyOnes();
            case 3: return net.tieCount();
            case 4: return net.sums();
            default: return NONE;
        }
    }

    public int load(int one, int other) {
        return net.tied(one, other) ? paths.loadOf(one, other) : NONE;
    }

    public int apart(int one, int other) {
        if (!net.hasTwo(one, other) || net.tied(one, other)) {
            return NONE;
        }
        return paths.rowsApart(one, other);
    }

    public int bears(int k) {
        if (k < 0 || k > MOST_CHOSEN) {
            return NONE;
        }
        return losses.breakingSet(k) == NONE ? 1 : 0;
    }

    public int broken(int k) {
        return k < 0 || k > MOST_CHOSEN ? NONE : losses.breakingSet(k);
    }

    public int mend() {
        return losses.mending();
    }

    public boolean need(int one, int other, int much) {
        if (!net.hasTwo(one, other) || much < 0 || much > MOST_MUCH) {
            return false;
        }
        return market.putNeed(one, other, much);
    }

    public int value(int one) {
        return net.has(one) ? market.valueOf(one) : NONE;
    }

    public boolean cost(int v) {
        if (v < 0 || v > MOST_COST) {
            return false;
        }
        market.price = v;
        return true;
    }

    public int gain(int one, int drops, int takes, int theirs, int side) {
        if (side < 0 || side > 1 || !market.canBe(one, drops, takes, theirs)) {
            return HIDDEN;
        }
        return market.gainOf(one, drops, takes, theirs, side == 0);
    }

    public boolean change(int one, int drops, int takes, int theirs) {
        if (!market.canBe(one, drops, takes, theirs)
                || !market.wanted(one, drops, takes, theirs)) {
            return false;
        }
        market.make(one, drops, takes, theirs);
        return true;
    }

    public int best(int one, int what) {
        if (!net.has(one) || what < 0 || what > 3 || !market.findBest(one)) {
            return HIDDEN;
        }
        switch (what) {
            case 0: return market.bestTaken;
            case 1: return market.bestDropped;
            case 2: return market.bestTheirs;
            default: return market.bestGain;
        }
    }

    public int turn() {
        spare.copy(net);
        int made = market.makeTurns();
        if (made == NONE) {
            net.copy(spare);
        }
        return made;
    }

    public boolean stable() {
        for (int one = 0; one < people; one++) {
            if (market.findBest(one)) {
                return false;
            }
        }
        return true;
    }

    public int send(int rule, int from, int to, int i) {
        if (!rules.has(rule) || !net.hasTwo(from, to)) {
            return NONE;
        }
        boolean comes = post.carry(rule, from, to);
        if (i == NONE) {
            return comes ? post.gifts : NONE;
        }
        return i >= 0 && i <= post.gifts ? post.holders[i] : NONE;
    }

    public int comes(int rule, int what) {
        if (!rules.has(rule) || what < 0 || what > 1) {
            return NONE;
        }
        return post.carryAll(rule, what == 1);
    }

    public int years(int rule, int death, int n, long seed) {
        if (!rules.has(rule) || death < 0 || death > HUNDRED || n < 1 || n > MOST_YEARS) {
            return NONE;
        }
        return ages.pass(rule, death, n, seed);
    }

    public int ring(int jumps) {
        if (!mayJump(jumps)) {
            return NONE;
        }
        for (int one = 0; one < people; one++) {
            if (Integer.bitCount(ringRow(jumps, one)) > net.limit[one]) {
                return NONE;
            }
        }
        tieRing(net, jumps);
        return net.tieCount();
    }

    private boolean mayJump(int jumps) {
        if (jumps <= 0 || jumps >= 1 << MOST_JUMP) {
            return false;
        }
        return jumps >> (people / 2) == 0;
    }

    private int ringRow(int jumps, int one) {
        int row = 0;
        for (int jump = 1; jump <= MOST_JUMP && jump < people; jump++) {
            if ((jumps >> (jump - 1) & 1) != 0) {
                int on = one + jump;
                int back = one - jump;
                row |= 1 << (on < people ? on : on - people);
                row |= 1 << (back >= 0 ? back : back + people);
            }
        }
        return row;
    }

    private void tieRing(Net to, int jumps) {
        for (int one = 0; one < people; one++) {
            to.ties[one] = ringRow(jumps, one);
        }
    }

    public int fine(int many, int what) {
        if (many < 1 || many > MOST_CHOSEN || what < 0 || what > 1) {
            return NONE;
        }
        int finest = NONE;
        int least = 0;
        for (int jumps = 1; jumps < 1 << MOST_JUMP; jumps++) {
            if (Integer.bitCount(jumps) == many && mayJump(jumps)) {
                tieRing(spare, jumps);
                int sum = spare.sumOf(0);
                if (finest == NONE || sum < least) {
                    finest = jumps;
                    least = sum;
                }
            }
        }
        return what == 0 || finest == NONE ? finest : least;
    }

    public int bound(int ties) {
        if (ties < 1 || ties > MOST_TIES) {
            return NONE;
        }
        int left = people - 1;
        int away = ties;
        int sum = 0;
        for (int step = 1; step < people && left > 0; step++) {
            int here = Math.min(left, away);
            sum += step * here;
            left -= here;
            // more than MOST_PEOPLE in one step are never asked for, so that nothing goes round
            away = Math.min(MOST_PEOPLE, away * (ties - 1));
        }
        return sum + people * left;
    }

    public int image() {
        image.copy(net);
        imageKept = true;
        return net.tieCount();
    }

    public int back() {
        if (!imageKept) {
            return NONE;
        }
        net.copy(image);
        return net.tieCount();
    }

    public int set(int what) {
        switch (what) {
            case 0: return sets.circle();
            case 1: return sets.apartness();
            case 2: return sets.hosts();
            default: return NONE;
        }
    }

    public int word(int from, int rounds) {
        if (!net.hasBits(from) || rounds < 0 || rounds > MOST_ROUNDS) {
            return NONE;
        }
        int heard = from;
        for (int i = 0; i < rounds; i++) {
            heard |= net.around(heard, net.everybody);
        }
        return heard;
    }

    public int out(int from) {
        return net.hasBits(from) ? net.roundsFrom(from) : NONE;
    }

    public int begin(int many) {
        return many < 1 || many > MOST_CHOSEN ? NONE : sets.beginners(many);
    }

    public int common(int one, int other) {
        return net.hasTwo(one, other) ? net.inCommon(one, other) : NONE;
    }

    public int likely() {
        return sets.likeliest();
    }

    public int threes(int what) {
        return what < 0 || what > 2 ? NONE : sets.countThrees(what);
    }

    public int courier(int what) {
        if (what < 0 || what > 1) {
            return NONE;
        }
        int one = losses.bestCourier();
        return what == 0 ? one : losses.moreWithout(one);
    }

    public int loss(int one, int other) {
        return net.tied(one, other) ? losses.lossOf(one, other) : NONE;
    }

    public int dear(int what) {
        if (what == 0) {
            return losses.dearest();
        }
        return what == 1 ? losses.bestGift() : NONE;
    }

    public int count(int what) {
        switch (what) {
            case 0: return people;
            case 1: return rules.number;
            case 2: return tape.length;
            case 3: return market.needs;
            case 4: return market.price;
            default: return HIDDEN;
        }
    }

    /** The first set of so many, NONE if there are not so many people. */
    private static int firstSet(int many, int people) {
        return many > people ? NONE : (1 << many) - 1;
    }

    /**
     * Of all sets as great the next one, in the order that the lower one where two first differ
     * comes first; NONE behind the last.
     */
    private static int nextSet(int set, int people) {
        int last = people - 1;
        int atEnd = 0;
        for (int i = last; i >= 0 && (set >> i & 1) != 0; i--) {
            atEnd++;
        }
        for (int i = last - atEnd; i >= 0; i--) {
            if ((set >> i & 1) != 0) {
                int kept = set & ((1 << i) - 1);
                return kept | ((1 << (atEnd + 1)) - 1) << (i + 1);
            }
        }
        return NONE;
    }

    /** Who knows whom, how many each may know, how old each is. */
    private static final class Net {
        final int people;
        final int everybody;
        final int[] ties = new int[MOST_PEOPLE];
        final int[] limit = new int[MOST_PEOPLE];
        final int[] age = new int[MOST_PEOPLE];

        Net(int people) {
            this.people = people;
            this.everybody = (1 << people) - 1;
            Arrays.fill(limit, FIRST_MOST);
        }

        void copy(Net other) {
            System.arraycopy(other.ties, 0, ties, 0, MOST_PEOPLE);
            System.arraycopy(other.limit, 0, limit, 0, MOST_PEOPLE);
            System.arraycopy(other.age, 0, age, 0, MOST_PEOPLE);
        }

        boolean has(int one) {
            return one >= 0 && one < people;
        }

        boolean hasTwo(int one, int other) {
            return has(one) && has(other) && one != other;
        }

        boolean hasBits(int bits) {
            return bits != 0 && (bits & ~everybody) == 0;
        }

        boolean tied(int one, int other) {
            return has(one) && has(other) && (ties[one] >> other & 1) != 0;
        }

        int degree(int one) {
            return Integer.bitCount(ties[one]);
        }

        boolean full(int one) {
            return Integer.bitCount(ties[one]) >= limit[one];
        }

        void join(int one, int other) {
            ties[one] |= 1 << other;
            ties[other] |= 1 << one;
        }

        void part(int one, int other) {
            ties[one] &= ~(1 << other);
            ties[other] &= ~(1 << one);
        }

        int tieCount() {
            int ends = 0;
            for (int one = 0; one < people; one++) {
                ends += degree(one);
            }
            return ends / 2;
        }

        int inCommon(int one, int other) {
            return Integer.bitCount(ties[one] & ties[other]);
        }

        /** Those among these whom somebody of the front knows. */
        int around(int front, int among) {
            int known = 0;
            for (int i = 0; i < people; i++) {
                if ((front >> i & 1) != 0) {
                    known |= ties[i];
                }
            }
            return known & among;
        }

        /** All that these can come to over those among alone, themselves too. */
        int reached(int from, int among) {
            int seen = from;
            int front = from;
            for (int step = 1; step < people && front != 0; step++) {
                front = around(front, among & ~seen);
                seen |= front;
            }
            return seen;
        }

        /** In how many rounds these come to all that they can come to. */
        int roundsFrom(int from) {
            int seen = from;
            int front = from;
            for (int round = 0; round < people; round++) {
                front = around(front, everybody & ~seen);
                if (front == 0) {
                    return round;
                }
                seen |= front;
            }
            return people;
        }

        /** How far two are apart over those among alone; NONE without a way. */
        int distance(int one, int other, int among) {
            if (one == other) {
                return 0;
            }
            int seen = 1 << one;
            int front = seen;
            for (int step = 1; step < people && front != 0; step++) {
                front = around(front, among & ~seen);
                if ((front >> other & 1) != 0) {
                    return step;
                }
                seen |= front;
            }
            return NONE;
        }

        /** Fills the row with how far one is from each; NONE without a way. */
        void measure(int one, int[] row) {
            Arrays.fill(row, NONE);
            int seen = 0;
            int front = 1 << one;
            for (int step = 0; step < people && front != 0; step++) {
                for (int i = 0; i < people && i < row.length; i++) {
                    if ((front >> i & 1) != 0) {
                        row[i] = step;
                    }
                }
                seen |= front;
                front = around(front, everybody & ~seen);
            }
        }

        /** How far one is from all counted together, over those among alone. */
        int sumOver(int one, int among, int counted) {
            int seen = 1 << one;
            int front = seen;
            int sum = 0;
            for (int step = 1; step < people && front != 0; step++) {
                front = around(front, among & ~seen);
                sum += step * Integer.bitCount(front & counted);
                seen |= front;
            }
            return sum + people * Integer.bitCount(counted & ~seen);
        }

        int sumOf(int one) {
            return sumOver(one, everybody, everybody);
        }

        int sums() {
            int sum = 0;
            for (int one = 0; one < people; one++) {
                sum += sumOf(one);
            }
            return sum;
        }

        int widest() {
            int wide = 0;
            for (int one = 0; one < people; one++) {
                wide = Math.max(wide, roundsFrom(1 << one));
            }
            return wide;
        }
    }

    /** The shortest rows between two, and the rows that share nobody. */
    private static final class Paths {
        private static final int NODES = 2 * MOST_PEOPLE;

        private final Net net;
        private final long[] ways = new long[MOST_PEOPLE];
        private final int[] row = new int[MOST_PEOPLE];
        private final int[] otherRow = new int[MOST_PEOPLE];
        private final long[] free = new long[NODES];
        private final int[] giver = new int[NODES];
        private final int[] queue = new int[NODES];

        Paths(Net net) {
            this.net = net;
        }

        /** Of two who are joined: the ways to others are left over from calls ahead. */
        long waysBetween(int one, int other) {
            ways[one] = 1;
            int seen = 1 << one;
            int front = seen;
            for (int step = 1; step < net.people && front != 0; step++) {
                int next = net.around(front, net.everybody & ~seen);
                for (int i = 0; i < net.people; i++) {
                    if ((next >> i & 1) != 0) {
                        ways[i] = waysOver(front & net.ties[i]);
                    }
                }
                seen |= next;
                front = next;
            }
            return ways[other];
        }

        private long waysOver(int before) {
            long sum = 0;
            for (int i = 0; i < net.people; i++) {
                if ((before >> i & 1) != 0) {
                    sum += ways[i];
                }
            }
            return sum;
        }

        /** Somebody is on all shortest rows, if without that one there is none so short. */
        int onAll(int one, int other) {
            int far = net.distance(one, other, net.everybody);
            int found = 0;
            for (int i = 0; i < net.people; i++) {
                if (i != one && i != other
                        && net.distance(one, other, net.everybody & ~(1 << i)) != far) {
                    found |= 1 << i;
                }
            }
            return found;
        }

        int onSome(int one, int other) {
            net.measure(one, row);
            net.measure(other, otherRow);
            int found = 0;
            for (int i = 0; i < net.people; i++) {
                boolean third = i != one && i != other && row[i] != NONE;
                if (third && row[i] + otherRow[i] == row[other]) {
                    found |= 1 << i;
                }
            }
            return found;
        }

        /** All shortest rows of two go over a tie, if without it there is none so short. */
        int loadOf(int one, int other) {
            int ends = 0;
            for (int i = 0; i < net.people; i++) {
                net.measure(i, row);
                net.part(one, other);
                net.measure(i, otherRow);
                net.join(one, other);
                for (int j = 0; j < net.people; j++) {
                    ends += row[j] != otherRow[j] ? 1 : 0;
                }
            }
            return ends / 2;
        }

        /**
         * A flow in which each one is two nodes, number i into it and MOST_PEOPLE + i out of it,
         * and each arc bears one row: so nobody but the two is on two rows.
         */
        int rowsApart(int one, int other) {
            for (int i = 0; i < net.people; i++) {
                free[i] = 1L << MOST_PEOPLE + i;
                free[MOST_PEOPLE + i] = net.ties[i];
            }
            for (int rows = 0; rows < net.people; rows++) {
                if (!findRow(MOST_PEOPLE + one, other)) {
                    return rows;
                }
                turnRow(MOST_PEOPLE + one, other);
            }
            return net.people;
        }

        private boolean findRow(int start, int goal) {
            long seen = 1L << start;
            queue[0] = start;
            int waiting = 1;
            for (int i = 0; i < waiting && i < NODES; i++) {
                int node = queue[i];
                for (int next = 0; next < NODES; next++) {
                    if ((free[node] & ~seen & 1L << next) != 0 && waiting < NODES) {
                        seen |= 1L << next;
                        giver[next] = node;
                        queue[waiting++] = next;
                    }
                }
                if ((seen & 1L << goal) != 0) {
                    return true;
                }
            }
            return false;
        }

        private void turnRow(int start, int goal) {
            int node = goal;
            for (int i = 0; i < NODES && node != start; i++) {
                int before = giver[node];
                free[before] &= ~(1L << node);
                free[node] |= 1L << before;
                node = before;
            }
        }
    }

    /** What is lost when somebody or a tie goes, and what a tie more brings. */
    private static final class Losses {
        private final Net net;

        Losses(Net net) {
            this.net = net;
        }

        int cutBy(int one) {
            int itself = 1 << one;
            int others = net.reached(itself, net.everybody) & ~itself;
            int ends = 0;
            for (int i = 0; i < net.people; i++) {
                if ((others >> i & 1) != 0) {
                    int still = net.reached(1 << i, net.everybody & ~itself);
                    ends += Integer.bitCount(others & ~still);
                }
            }
            return ends / 2;
        }

        int keyOnes() {
            int keys = 0;
            for (int one = 0; one < net.people; one++) {
                if (cutBy(one) > 0) {
                    keys |= 1 << one;
                }
            }
            return keys;
        }

        int parts() {
            int seen = 0;
            int parts = 0;
            for (int one = 0; one < net.people; one++) {
                if ((seen >> one & 1) == 0) {
                    seen |= net.reached(1 << one, net.everybody);
                    parts++;
                }
            }
            return parts;
        }

        int mending() {
            int needed = parts() - 1;
            if (needed == 0) {
                return 0;
            }
            for (int one = 0; one < net.people; one++) {
                if (roomOf(net.reached(1 << one, net.everybody)) == 0) {
                    return NONE;
                }
            }
            return roomOf(net.everybody) < 2 * needed ? NONE : needed;
        }

        private int roomOf(int bits) {
            int room = 0;
            for (int i = 0; i < net.people; i++) {
                if ((bits >> i & 1) != 0) {
                    room += net.limit[i] - net.degree(i);
                }
            }
            return room;
        }

        int breakingSet(int many) {
            int gone = firstSet(many, net.people);
            for (int i = 0; i < SETS_OF_CHOSEN && gone != NONE; i++) {
                if (!joined(net.everybody & ~gone)) {
                    return gone;
                }
                gone = nextSet(gone, net.people);
            }
            return NONE;
        }

        private boolean joined(int among) {
            return net.reached(among & -among, among) == among;
        }

        int bestCourier() {
            int best = 0;
            int most = moreWithout(0);
            for (int one = 1; one < net.people; one++) {
                int more = moreWithout(one);
                if (more > most) {
                    best = one;
                    most = more;
                }
            }
            return best;
        }

        int moreWithout(int one) {
            int others = net.everybody & ~(1 << one);
            int more = 0;
            for (int i = 0; i < net.people; i++) {
                if (i != one) {
                    more += net.sumOver(i, others, others) - net.sumOver(i, net.everybody, others);
                }
            }
            return more;
        }

        int lossOf(int one, int other) {
            int ahead = net.sums();
            net.part(one, other);
            int behind = net.sums();
            net.join(one, other);
            return behind - ahead;
        }

        int dearest() {
            int dearest = NONE;
            int most = 0;
            for (int one = 0; one < net.people; one++) {
                for (int other = one + 1; other < net.people; other++) {
                    int loss = net.tied(one, other) ? lossOf(one, other) : 0;
                    if (loss > most) {
                        dearest = MOST_PEOPLE * one + other;
                        most = loss;
                    }
                }
            }
            return dearest;
        }

        int bestGift() {
            int ahead = net.sums();
            int best = NONE;
            int least = ahead;
            for (int one = 0; one < net.people; one++) {
                for (int other = one + 1; other < net.people; other++) {
                    int behind = mayJoin(one, other) ? sumsWith(one, other) : ahead;
                    if (behind < least) {
                        best = MOST_PEOPLE * one + other;
                        least = behind;
                    }
                }
            }
            return best;
        }

        private boolean mayJoin(int one, int other) {
            return !net.tied(one, other) && !net.full(one) && !net.full(other);
        }

        private int sumsWith(int one, int other) {
            net.join(one, other);
            int sums = net.sums();
            net.part(one, other);
            return sums;
        }
    }

    /** Sets of people, and sets of two and three of them. */
    private static final class Sets {
        private final Net net;
        private final int[] fits;

        Sets(Net net) {
            this.net = net;
            this.fits = new int[net.people];
        }

        int circle() {
            return grow(net.ties, 0, 0, net.everybody, 0);
        }

        int apartness() {
            for (int i = 0; i < fits.length; i++) {
                fits[i] = net.everybody & ~net.ties[i] & ~(1 << i);
            }
            return grow(fits, 0, 0, net.everybody, 0);
        }

        /**
         * The greatest of the best one so far and of all sets that go on from those chosen by those
         * open. Sets come in the order asked for, so that the first one of its size is the one.
         */
        private static int grow(int[] fits, int size, int chosen, int open, int best) {
            int greatest = size > Integer.bitCount(best) ? chosen : best;
            int left = open;
            for (int i = 0; i < fits.length && size < MOST_PEOPLE; i++) {
                if (size + Integer.bitCount(left) <= Integer.bitCount(greatest)) {
                    return greatest;
                }
                if ((left >> i & 1) != 0) {
                    left &= ~(1 << i);
                    greatest = grow(fits, size + 1, chosen | 1 << i, left & fits[i], greatest);
                }
            }
            return greatest;
        }

        int hosts() {
            int reach = 1;
            for (int i = 0; i < fits.length; i++) {
                fits[i] = net.ties[i] | 1 << i;
                reach = Math.max(reach, Integer.bitCount(fits[i]));
            }
            for (int many = 1; many < net.people; many++) {
                int found = cover(fits, 0, 0, net.everybody, many, reach);
                if (found != NONE) {
                    return found;
                }
            }
            return net.everybody;
        }

        /**
         * From one on, so many more hosts for all that wait, none of whom serves more than reach;
         * NONE if there are none.
         */
        private static int cover(int[] fits, int one, int chosen, int waiting, int many,
                int reach) {
            if (waiting == 0) {
                return chosen;
            }
            if (one >= fits.length || Integer.bitCount(waiting) > many * reach) {
                return NONE;
            }
            int found = cover(fits, one + 1, chosen | 1 << one, waiting & ~fits[one], many - 1,
                    reach);
            if (found != NONE || !servedBehind(fits, one, waiting)) {
                return found;
            }
            return cover(fits, one + 1, chosen, waiting, many, reach);
        }

        /** Whether each that waits knows somebody behind one, or is such a one itself. */
        private static boolean servedBehind(int[] fits, int one, int waiting) {
            int behind = -(2 << one);
            for (int i = 0; i < fits.length; i++) {
                if ((waiting >> i & 1) != 0 && (fits[i] & behind) == 0) {
                    return false;
                }
            }
            return true;
        }

        int beginners(int many) {
            int best = NONE;
            int bestHeard = 0;
            int bestRounds = 0;
            int from = firstSet(many, net.people);
            for (int i = 0; i < SETS_OF_CHOSEN && from != NONE; i++) {
                int heard = Integer.bitCount(net.reached(from, net.everybody));
                int rounds = net.roundsFrom(from);
                if (heard > bestHeard || heard == bestHeard && rounds < bestRounds) {
                    best = from;
                    bestHeard = heard;
                    bestRounds = rounds;
                }
                from = nextSet(from, net.people);
            }
            return best;
        }

        int likeliest() {
            int best = NONE;
            int most = NONE;
            for (int one = 0; one < net.people; one++) {
                for (int other = one + 1; other < net.people; other++) {
                    if (!net.tied(one, other) && net.inCommon(one, other) > most) {
                        best = MOST_PEOPLE * one + other;
                        most = net.inCommon(one, other);
                    }
                }
            }
            return best;
        }

        int countThrees(int what) {
            int closed = threesWith(3);
            int open = threesWith(2);
            if (what < 2) {
                return what == 0 ? closed : open;
            }
            int both = 3 * closed + open;
            return both == 0 ? 0 : 1000 * 3 * closed / both;
        }

        private int threesWith(int ties) {
            int threes = 0;
            for (int i = 0; i < net.people; i++) {
                for (int j = i + 1; j < net.people; j++) {
                    for (int k = j + 1; k < net.people; k++) {
                        int found = (net.ties[i] >> j & 1) + (net.ties[i] >> k & 1)
                                + (net.ties[j] >> k & 1);
                        threes += found == ties ? 1 : 0;
                    }
                }
            }
            return threes;
        }
    }

    /** The bytes that are fed, none of them 0. */
    private static final class Tape {
        private static final int BLANK = 32;

        private final int[] bytes = new int[MOST_BYTES];
        int length;

        static int filled(int four) {
            int filled = 0;
            for (int shift = 24; shift >= 0; shift -= 8) {
                filled += (four >>> shift & 255) != 0 ? 1 : 0;
            }
            return filled;
        }

        void add(int four) {
            for (int shift = 24; shift >= 0; shift -= 8) {
                int sign = four >>> shift & 255;
                if (sign != 0 && length < MOST_BYTES) {
                    bytes[length++] = sign;
                }
            }
        }

        /** The byte there; 0 behind the last. */
        int sign(int at) {
            return at >= 0 && at < length ? bytes[at] : 0;
        }

        /** The first place from there on that is no blank. */
        int pastBlanks(int at) {
            for (int place = at; place >= 0 && place < length; place++) {
                if (bytes[place] != BLANK) {
                    return place;
                }
            }
            return length;
        }
    }

    /** The tape read as a net. */
    private static final class NetText {
        private final Tape tape;
        private final Net net;
        final int[] rows = new int[MOST_PEOPLE];

        NetText(Tape tape, Net net) {
            this.tape = tape;
            this.net = net;
        }

        /** The fault, or NONE; then the rows are the ties told. */
        int read() {
            Arrays.fill(rows, 0);
            int at = tape.pastBlanks(0);
            if (at == tape.length) {
                return NONE;
            }
            for (int i = 0; i < MOST_BYTES; i++) {
                int one = whose(at);
                if (one == NONE) {
                    return at;
                }
                at = tape.pastBlanks(at + 1);
                if (!joined(one, whose(at))) {
                    return at;
                }
                at = tape.pastBlanks(at + 1);
                if (at == tape.length) {
                    return NONE;
                }
                if (tape.sign(at) != ',') {
                    return at;
                }
                at = tape.pastBlanks(at + 1);
            }
            return at;
        }

        private int whose(int at) {
            int one = tape.sign(at) - 'a';
            return net.has(one) ? one : NONE;
        }

        private boolean joined(int one, int other) {
            if (other == NONE || other == one || (rows[one] >> other & 1) != 0
                    || hasMost(one) || hasMost(other)) {
                return false;
            }
            rows[one] |= 1 << other;
            rows[other] |= 1 << one;
            return true;
        }

        private boolean hasMost(int one) {
            return Integer.bitCount(rows[one]) >= net.limit[one];
        }
    }

    /**
     * The tape read as a rule. What it tells is written down as code in which each sign stands
     * behind what it joins; a byte gives one number of code at most.
     */
    private static final class RuleText {
        private static final String LETTERS = "tfkcbador";
        private static final int MOST_DIGITS = 4;
        private static final int MOST_WITHIN = 6;

        private final Tape tape;
        final int[] code = new int[MOST_BYTES];
        int size;
        private int at;
        private boolean wrong;

        RuleText(Tape tape) {
            this.tape = tape;
        }

        /** The fault, or NONE; then the code is the rule told. */
        int read() {
            size = 0;
            at = 0;
            wrong = false;
            for (int i = 0; i < MOST_BYTES; i++) {
                expect('y');
                expect(':');
                int first = next();
                boolean sumFirst = first != '!' && first != '(';
                if (sumFirst) {
                    sum(0);
                }
                if (!sumFirst || comparing(next()) != NONE) {
                    condition(0, sumFirst);
                    expect('?');
                    write(Rules.HOLDS, 0);
                    sum(0);
                }
                write(Rules.END, 0);
                if (next() != ';') {
                    break;
                }
                at++;
            }
            return wrong || at < tape.length ? at : NONE;
        }

        /** The sign that comes next; 0 if there is none or if a fault has been found. */
        private int next() {
            if (wrong) {
                return 0;
            }
            at = tape.pastBlanks(at);
            return tape.sign(at);
        }

        private void expect(int sign) {
            if (next() == sign) {
                at++;
            } else {
                wrong = true;
            }
        }

        private void write(int sign, int value) {
            if (size < code.length) {
                code[size++] = value << Rules.VALUE_SHIFT | sign;
            }
        }

        /** With sumRead the first sum of it has been read already. */
        private void condition(int depth, boolean sumRead) {
            boolean both = false;
            boolean either = false;
            for (int i = 0; i < MOST_BYTES && !wrong; i++) {
                unit(depth, sumRead && i == 0);
                if (both) {
                    write(Rules.AND, 0);
                }
                int sign = next();
                both = sign == '&';
                if (!both) {
                    if (either) {
                        write(Rules.OR, 0);
                    }
                    either = sign == '|';
                    if (!either) {
                        return;
                    }
                }
                at++;
            }
        }

        /** A ! or ( too deep is left where it is: no sum begins with it. */
        private void unit(int depth, boolean sumRead) {
            int within = depth;
            while (!sumRead && within < MOST_WITHIN && next() == '!') {
                at++;
                within++;
            }
            if (!sumRead && within < MOST_WITHIN && next() == '(') {
                at++;
                condition(within + 1, false);
                expect(')');
            } else {
                if (!sumRead) {
                    sum(within);
                }
                int sign = comparing(next());
                if (sign == NONE) {
                    wrong = true;
                } else {
                    at++;
                    sum(within);
                    write(sign, 0);
                }
            }
            for (int i = depth; i < within; i++) {
                write(Rules.NOT, 0);
            }
        }

        private void sum(int depth) {
            int times = NONE;
            int plus = NONE;
            for (int i = 0; i < MOST_BYTES && !wrong; i++) {
                atom(depth);
                if (times != NONE) {
                    write(times, 0);
                }
                int sign = next();
                times = multiplying(sign);
                if (times == NONE) {
                    if (plus != NONE) {
                        write(plus, 0);
                    }
                    plus = adding(sign);
                    if (plus == NONE) {
                        return;
                    }
                }
                at++;
            }
        }

        private void atom(int depth) {
            int sign = next();
            if (isDigit(sign)) {
                number();
            } else if (sign == '[' && depth < MOST_WITHIN) {
                at++;
                sum(depth + 1);
                expect(']');
            } else if (sign != 0 && LETTERS.indexOf((char) sign) >= 0) {
                at++;
                write(Rules.LETTER, LETTERS.indexOf((char) sign));
            } else {
                wrong = true;
            }
        }

        /** A fifth digit is left where it is: nothing that may follow a number is a digit. */
        private void number() {
            int value = 0;
            for (int i = 0; i < MOST_DIGITS && isDigit(tape.sign(at)); i++) {
                value = 10 * value + tape.sign(at) - '0';
                at++;
            }
            write(Rules.NUMBER, value);
        }

        private static boolean isDigit(int sign) {
            return sign >= '0' && sign <= '9';
        }

        private static int comparing(int sign) {
            switch (sign) {
                case '=': return Rules.EQUAL;
                case '<': return Rules.LESS;
                case '>': return Rules.MORE;
                default: return NONE;
            }
        }

        private static int adding(int sign) {
            if (sign == '+') {
                return Rules.PLUS;
            }
            return sign == '-' ? Rules.MINUS : NONE;
        }

        private static int multiplying(int sign) {
            if (sign == '*') {
                return Rules.TIMES;
            }
            return sign == '/' ? Rules.BY : NONE;
        }
    }

    /** The rules' code, and what somebody is worth by it with the letters as they stand. */
    private static final class Rules {
        static final int NUMBER = 0;
        static final int LETTER = 1;
        static final int PLUS = 2;
        static final int MINUS = 3;
        static final int TIMES = 4;
        static final int BY = 5;
        static final int EQUAL = 6;
        static final int LESS = 7;
        static final int MORE = 8;
        static final int AND = 9;
        static final int OR = 10;
        static final int NOT = 11;
        static final int HOLDS = 12;
        static final int END = 13;
        static final int VALUE_SHIFT = 4;
        private static final int SIGN_BITS = 15;

        /** The letters' places, in the order of RuleText.LETTERS. */
        static final int T = 0;
        static final int F = 1;
        static final int K = 2;
        static final int C = 3;
        static final int B = 4;
        static final int A = 5;
        static final int D = 6;
        static final int O = 7;
        static final int R = 8;

        private static final int ALL_LETTERS = 9;
        /** Seven levels, in each at most one number waiting for each of | & = + * and one more. */
        private static final int MOST_WAITING = 48;
        private static final int FARTHEST = 1000000;

        private final int[][] codes = new int[MOST_RULES][MOST_BYTES];
        private final int[] sizes = new int[MOST_RULES];
        private final int[] waiting = new int[MOST_WAITING];
        final int[] letters = new int[ALL_LETTERS];
        int number;

        boolean has(int rule) {
            return rule >= 0 && rule < number;
        }

        int add(int[] code, int size) {
            System.arraycopy(code, 0, codes[number], 0, size);
            sizes[number] = size;
            return number++;
        }

        void forgetLetters() {
            Arrays.fill(letters, 0);
        }

        int worth(int rule) {
            int[] code = codes[rule];
            int top = 0;
            boolean passing = false;
            for (int i = 0; i < sizes[rule] && i < code.length; i++) {
                int sign = code[i] & SIGN_BITS;
                if (passing) {
                    passing = sign != END;
                } else if (sign == END) {
                    return top > 0 ? waiting[top - 1] : 0;
                } else if (sign == HOLDS) {
                    passing = top > 0 && waiting[top - 1] == 0;
                    top = 0;
                } else if (sign <= LETTER) {
                    if (top < MOST_WAITING) {
                        waiting[top++] = told(sign, code[i] >> VALUE_SHIFT);
                    }
                } else if (sign == NOT) {
                    if (top > 0) {
                        waiting[top - 1] = 1 - waiting[top - 1];
                    }
                } else if (top > 1) {
                    top--;
                    waiting[top - 1] = joined(sign, waiting[top - 1], waiting[top]);
                }
            }
            return 0;
        }

        private int told(int sign, int value) {
            if (sign == NUMBER) {
                return value;
            }
            return value >= 0 && value < ALL_LETTERS ? letters[value] : 0;
        }

        private static int joined(int sign, int left, int right) {
            switch (sign) {
                case PLUS: return bounded((long) left + right);
                case MINUS: return bounded((long) left - right);
                case TIMES: return bounded((long) left * right);
                case BY: return right == 0 ? 0 : bounded((long) left / right);
                case EQUAL: return left == right ? 1 : 0;
                case LESS: return left < right ? 1 : 0;
                case MORE: return left > right ? 1 : 0;
                case AND: return left & right;
                default: return left | right;
            }
        }

        private static int bounded(long value) {
            if (value > FARTHEST) {
                return FARTHEST;
            }
            return value < -FARTHEST ? -FARTHEST : (int) value;
        }
    }

    /** Needs, and the changes that both want. */
    private static final class Market {
        private static final int MOST_TURNS = 40;

        private final Net net;
        private final int[][] much = new int[MOST_PEOPLE][MOST_PEOPLE];
        private final int[] needed = new int[MOST_PEOPLE];
        int needs;
        int price;
        int bestTaken;
        int bestDropped;
        int bestTheirs;
        int bestGain;

        Market(Net net) {
            this.net = net;
        }

        boolean putNeed(int one, int other, int how) {
            boolean there = much[one][other] > 0;
            if (!there && how > 0 && needs >= MOST_NEEDS) {
                return false;
            }
            needs += (how > 0 ? 1 : 0) - (there ? 1 : 0);
            much[one][other] = how;
            needed[one] = how > 0 ? needed[one] | 1 << other : needed[one] & ~(1 << other);
            return true;
        }

        int valueOf(int one) {
            int seen = 1 << one;
            int front = seen;
            int value = 0;
            for (int step = 1; step < net.people && front != 0; step++) {
                if ((needed[one] & ~seen) == 0) {
                    return value;
                }
                front = net.around(front, net.everybody & ~seen);
                value += valueAmong(one, front & needed[one], step - 1);
                seen |= front;
            }
            return value;
        }

        private int valueAmong(int one, int others, int halvings) {
            int value = 0;
            for (int i = 0; i < net.people && others != 0; i++) {
                if ((others >> i & 1) != 0) {
                    value += much[one][i] >> halvings;
                }
            }
            return value;
        }

        boolean canBe(int one, int drops, int takes, int theirs) {
            return net.hasTwo(one, takes) && !net.tied(one, takes)
                    && mayDrop(one, drops) && mayDrop(takes, theirs);
        }

        /** Who drops somebody has as many ties behind the change as ahead: room enough. */
        private boolean mayDrop(int one, int dropped) {
            return dropped == NONE ? !net.full(one) : net.tied(one, dropped);
        }

        void make(int one, int drops, int takes, int theirs) {
            if (drops != NONE) {
                net.part(one, drops);
            }
            if (theirs != NONE) {
                net.part(takes, theirs);
            }
            net.join(one, takes);
        }

        private void unmake(int one, int drops, int takes, int theirs) {
            net.part(one, takes);
            if (drops != NONE) {
                net.join(one, drops);
            }
            if (theirs != NONE) {
                net.join(takes, theirs);
            }
        }

        /** The gain of the one who makes the change (first) or of the one whom it takes. */
        int gainOf(int one, int drops, int takes, int theirs, boolean first) {
            int whose = first ? one : takes;
            int paid = (first ? drops : theirs) == NONE ? 0 : price;
            int ahead = valueOf(whose);
            make(one, drops, takes, theirs);
            int behind = valueOf(whose);
            unmake(one, drops, takes, theirs);
            return behind - ahead - paid;
        }

        boolean wanted(int one, int drops, int takes, int theirs) {
            return gainOf(one, drops, takes, theirs, true) > 0
                    && gainOf(one, drops, takes, theirs, false) > 0;
        }

        /** Whoever needs nobody gains nothing, so that no change of it is wanted. */
        boolean findBest(int one) {
            bestGain = 0;
            if (needed[one] == 0) {
                return false;
            }
            for (int takes = 0; takes < net.people; takes++) {
                if (takes != one && needed[takes] != 0 && !net.tied(one, takes)) {
                    tryTaking(one, takes);
                }
            }
            return bestGain > 0;
        }

        private void tryTaking(int one, int takes) {
            for (int drops = NONE; drops < net.people; drops++) {
                // a tie less brings nobody nearer: if the other one drops, this gain only falls
                if (mayDrop(one, drops) && gainOf(one, drops, takes, NONE, true) > bestGain) {
                    tryDropping(one, drops, takes);
                }
            }
        }

        private void tryDropping(int one, int drops, int takes) {
            for (int theirs = NONE; theirs < net.people; theirs++) {
                if (mayDrop(takes, theirs)) {
                    int gain = gainOf(one, drops, takes, theirs, true);
                    if (gain > bestGain && gainOf(one, drops, takes, theirs, false) > 0) {
                        bestTaken = takes;
                        bestDropped = drops;
                        bestTheirs = theirs;
                        bestGain = gain;
                    }
                }
            }
        }

        /** How many changes are made by turns; NONE for a ring. */
        int makeTurns() {
            int made = 0;
            for (int round = 0; round <= MOST_TURNS; round++) {
                int ahead = made;
                for (int one = 0; one < net.people; one++) {
                    if (findBest(one)) {
                        if (made == MOST_TURNS) {
                            return NONE;
                        }
                        make(one, bestDropped, bestTaken, bestTheirs);
                        made++;
                    }
                }
                if (made == ahead) {
                    return made;
                }
            }
            return NONE;
        }
    }

    /** Letters that are sent on by a rule. */
    private static final class Post {
        private static final int MOST_GIFTS = 60;

        private final Net net;
        private final Rules rules;
        private final int[] visits = new int[MOST_PEOPLE];
        final int[] holders = new int[MOST_GIFTS + 1];
        int gifts;

        Post(Net net, Rules rules) {
            this.net = net;
            this.rules = rules;
        }

        /** Whether it comes; the holders behind each of the gifts are kept. */
        boolean carry(int rule, int from, int to) {
            rules.forgetLetters();
            Arrays.fill(visits, 0);
            visits[from] = 1;
            holders[0] = from;
            gifts = 0;
            for (int i = 0; i < MOST_GIFTS; i++) {
                int next = heir(rule, holders[i], to);
                if (next == NONE) {
                    return false;
                }
                visits[next]++;
                holders[i + 1] = next;
                gifts++;
                if (next == to) {
                    return true;
                }
            }
            return false;
        }

        private int heir(int rule, int holder, int to) {
            int best = NONE;
            int most = 0;
            for (int i = 0; i < net.people; i++) {
                if ((net.ties[holder] >> i & 1) != 0) {
                    tellLetters(holder, i, to);
                    int worth = rules.worth(rule);
                    if (best == NONE || worth > most) {
                        best = i;
                        most = worth;
                    }
                }
            }
            return best;
        }

        private void tellLetters(int holder, int that, int to) {
            int[] letters = rules.letters;
            letters[Rules.T] = that == to ? 1 : 0;
            letters[Rules.F] = net.ties[that] >> to & 1;
            letters[Rules.K] = net.degree(that);
            letters[Rules.C] = net.inCommon(holder, that);
            letters[Rules.B] = visits[that];
            letters[Rules.A] = Math.abs(that - to);
        }

        /** How many letters of all pairs come, or all gifts of those that come. */
        int carryAll(int rule, boolean ofGifts) {
            int sum = 0;
            for (int from = 0; from < net.people; from++) {
                for (int to = 0; to < net.people; to++) {
                    if (from != to && carry(rule, from, to)) {
                        sum += ofGifts ? gifts : 1;
                    }
                }
            }
            return sum;
        }
    }

    /** Years that go by with deaths and with ties that are taken by a rule. */
    private static final class Ages {
        private static final long DRAW_TIMES = 6364136223846793005L;
        private static final long DRAW_PLUS = 1442695040888963407L;
        private static final int DRAW_SHIFT = 33;

        private final Net net;
        private final Rules rules;
        private final Market market;
        private final int[] row = new int[MOST_PEOPLE];
        private long drawn;

        Ages(Net net, Rules rules, Market market) {
            this.net = net;
            this.rules = rules;
            this.market = market;
        }

        int pass(int rule, int death, int years, long seed) {
            rules.forgetLetters();
            drawn = seed;
            int dead = 0;
            for (int year = 0; year < years; year++) {
                dead += dyings(death);
                for (int one = 0; one < net.people; one++) {
                    look(rule, one);
                }
            }
            return dead;
        }

        private int dyings(int death) {
            int dead = 0;
            for (int one = 0; one < net.people; one++) {
                drawn = drawn * DRAW_TIMES + DRAW_PLUS;
                if ((drawn >>> DRAW_SHIFT) % HUNDRED < death) {
                    leave(one);
                    net.age[one] = 0;
                    dead++;
                } else {
                    net.age[one]++;
                }
            }
            return dead;
        }

        private void leave(int one) {
            for (int i = 0; i < net.people; i++) {
                net.part(one, i);
            }
        }

        private void look(int rule, int one) {
            net.measure(one, row);
            int found = bestStranger(rule, one);
            if (found == NONE) {
                return;
            }
            int worth = worthOf(rule, one, found);
            if (!net.full(one)) {
                if (worth > 0) {
                    net.join(one, found);
                }
                return;
            }
            int least = leastKnown(rule, one);
            if (least != NONE && worth > worthOf(rule, one, least) + market.price) {
                net.part(one, least);
                net.join(one, found);
            }
        }

        private int bestStranger(int rule, int one) {
            int best = NONE;
            int most = 0;
            for (int i = 0; i < net.people; i++) {
                if (i != one && !net.tied(one, i) && !net.full(i)) {
                    int worth = worthOf(rule, one, i);
                    if (best == NONE || worth > most) {
                        best = i;
                        most = worth;
                    }
                }
            }
            return best;
        }

        /** NONE if one knows nobody, as with a most of 0. */
        private int leastKnown(int rule, int one) {
            int found = NONE;
            int least = 0;
            for (int i = 0; i < net.people; i++) {
                if (net.tied(one, i)) {
                    int worth = worthOf(rule, one, i);
                    if (found == NONE || worth < least) {
                        found = i;
                        least = worth;
                    }
                }
            }
            return found;
        }

        private int worthOf(int rule, int one, int that) {
            int[] letters = rules.letters;
            letters[Rules.D] = row[that] == NONE ? 0 : row[that];
            letters[Rules.K] = net.degree(that);
            letters[Rules.C] = net.inCommon(one, that);
            letters[Rules.O] = net.age[that];
            letters[Rules.R] = net.limit[that] - net.degree(that);
            return rules.worth(rule);
        }
    }
}
