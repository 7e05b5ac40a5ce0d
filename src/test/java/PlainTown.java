import java.math.BigInteger;
import java.util.ArrayList;
import java.util.Arrays;
import java.util.List;
import java.util.function.IntPredicate;

/**
 * The town as the document tells it, by the plainest means: all rows written out, all sets tried,
 * all changes tried. Slow; for towns of few people.
 */
final class PlainTown {
    private static final int NONE = -1;
    private static final int HIDDEN = -1000000;

    final int people;
    boolean[][] tied;
    int[] most;
    int[] age;
    private boolean[][] imageTied;
    private int[] imageMost;
    private int[] imageAge;
    final int[][] much;
    int cost;
    final List<String> rules = new ArrayList<>();

    PlainTown(int people) {
        this.people = people;
        tied = new boolean[people][people];
        most = new int[people];
        Arrays.fill(most, 7);
        age = new int[people];
        much = new int[people][people];
    }

    boolean has(int one) {
        return one >= 0 && one < people;
    }

    boolean two(int one, int other) {
        return has(one) && has(other) && one != other;
    }

    int degree(int one) {
        int degree = 0;
        for (int i = 0; i < people; i++) {
            degree += tied[one][i] ? 1 : 0;
        }
        return degree;
    }

    void put(int one, int other, boolean tie) {
        tied[one][other] = tie;
        tied[other][one] = tie;
    }

    int ties() {
        int ties = 0;
        for (int i = 0; i < people; i++) {
            ties += degree(i);
        }
        return ties / 2;
    }

    private static boolean[][] copy(boolean[][] from) {
        boolean[][] copy = new boolean[from.length][];
        for (int i = 0; i < from.length; i++) {
            copy[i] = from[i].clone();
        }
        return copy;
    }

    /** All distances over those not gone, by Floyd and Warshall; 99 where there is no way. */
    int[][] distances(int gone) {
        int[][] far = new int[people][people];
        for (int i = 0; i < people; i++) {
            for (int j = 0; j < people; j++) {
                boolean both = (gone >> i & 1) == 0 && (gone >> j & 1) == 0;
                far[i][j] = i == j ? 0 : both && tied[i][j] ? 1 : 99;
            }
        }
        for (int k = 0; k < people; k++) {
            for (int i = 0; i < people; i++) {
                for (int j = 0; j < people; j++) {
                    far[i][j] = Math.min(far[i][j], far[i][k] + far[k][j]);
                }
            }
        }
        for (int[] row : far) {
            for (int j = 0; j < people; j++) {
                row[j] = Math.min(row[j], 99);
            }
        }
        return far;
    }

    int far(int one, int other) {
        if (!has(one) || !has(other)) {
            return NONE;
        }
        int far = distances(0)[one][other];
        return far == 99 ? NONE : far;
    }

    /** All shortest rows from one to other, each as the list of its people. */
    List<List<Integer>> rows(int one, int other) {
        List<List<Integer>> rows = new ArrayList<>();
        int[][] far = distances(0);
        if (far[one][other] < 99) {
            go(new ArrayList<>(List.of(one)), other, far, rows);
        }
        return rows;
    }

    private void go(List<Integer> row, int other, int[][] far, List<List<Integer>> rows) {
        int at = row.get(row.size() - 1);
        if (at == other) {
            rows.add(new ArrayList<>(row));
            return;
        }
        for (int i = 0; i < people; i++) {
            if (tied[at][i] && far[i][other] == far[at][other] - 1) {
                row.add(i);
                go(row, other, far, rows);
                row.remove(row.size() - 1);
            }
        }
    }

    long ways(int one, int other) {
        return far(one, other) == NONE ? NONE : rows(one, other).size();
    }

    int over(int one, int other, int what) {
        if (far(one, other) == NONE || what < 0 || what > 1) {
            return NONE;
        }
        int all = (1 << people) - 1;
        int some = 0;
        for (List<Integer> row : rows(one, other)) {
            int bits = 0;
            for (int i : row) {
                bits |= 1 << i;
            }
            all &= bits;
            some |= bits;
        }
        return (what == 0 ? all : some) & ~(1 << one) & ~(1 << other);
    }

    int sum(int one, int[][] far) {
        int sum = 0;
        for (int i = 0; i < people; i++) {
            sum += far[one][i] == 99 ? people : far[one][i];
        }
        return sum;
    }

    int part(int one) {
        int part = 0;
        int[][] far = distances(0);
        for (int i = 0; i < people; i++) {
            part |= far[one][i] < 99 ? 1 << i : 0;
        }
        return part;
    }

    int cut(int one) {
        int[][] with = distances(0);
        int[][] without = distances(1 << one);
        int pairs = 0;
        for (int i = 0; i < people; i++) {
            for (int j = i + 1; j < people; j++) {
                pairs += i != one && j != one && with[i][j] < 99 && without[i][j] == 99 ? 1 : 0;
            }
        }
        return pairs;
    }

    int of(int one, int what) {
        if (!has(one)) {
            return NONE;
        }
        return switch (what) {
            case 0 -> sum(one, distances(0));
            case 1 -> part(one);
            case 2 -> cut(one);
            case 3 -> age[one];
            case 4 -> most[one];
            default -> NONE;
        };
    }

    int sums() {
        int[][] far = distances(0);
        int sums = 0;
        for (int i = 0; i < people; i++) {
            sums += sum(i, far);
        }
        return sums;
    }

    int all(int what) {
        int[][] far = distances(0);
        int got = 0;
        for (int i = 0; i < people; i++) {
            if (what == 0) {
                for (int j = 0; j < people; j++) {
                    got = far[i][j] < 99 ? Math.max(got, far[i][j]) : got;
                }
            } else if (what == 1) {
                got += Integer.numberOfTrailingZeros(part(i)) == i ? 1 : 0;
            } else if (what == 2) {
                got |= cut(i) > 0 ? 1 << i : 0;
            }
        }
        return what == 3 ? ties() : what == 4 ? sums() : what < 0 || what > 4 ? NONE : got;
    }

    int load(int one, int other) {
        if (!two(one, other) || !tied[one][other]) {
            return NONE;
        }
        int load = 0;
        for (int i = 0; i < people; i++) {
            for (int j = i + 1; j < people; j++) {
                List<List<Integer>> rows = rows(i, j);
                boolean all = !rows.isEmpty();
                for (List<Integer> row : rows) {
                    int at = row.indexOf(one);
                    all &= at >= 0 && (at > 0 && row.get(at - 1) == other
                            || at + 1 < row.size() && row.get(at + 1) == other);
                }
                load += all ? 1 : 0;
            }
        }
        return load;
    }

    /** As many rows share nobody as there must go at least, that there be no way (Menger). */
    int apart(int one, int other) {
        if (!two(one, other) || tied[one][other]) {
            return NONE;
        }
        int fewest = people;
        for (int gone = 0; gone < 1 << people; gone++) {
            if ((gone >> one & 1) == 0 && (gone >> other & 1) == 0
                    && Integer.bitCount(gone) < fewest && distances(gone)[one][other] == 99) {
                fewest = Integer.bitCount(gone);
            }
        }
        return fewest;
    }

    /** Whether the set comes ahead of the other as great one. */
    static boolean ahead(int set, int other) {
        int unlike = set ^ other;
        return unlike != 0 && (set & unlike & -unlike) != 0;
    }

    private boolean joinedWithout(int gone) {
        int[][] far = distances(gone);
        for (int i = 0; i < people; i++) {
            for (int j = 0; j < people; j++) {
                if ((gone >> i & 1) == 0 && (gone >> j & 1) == 0 && far[i][j] == 99) {
                    return false;
                }
            }
        }
        return true;
    }

    int broken(int k) {
        int best = NONE;
        for (int gone = 0; gone < 1 << people && k >= 0 && k <= 3; gone++) {
            if (Integer.bitCount(gone) == k && (best == NONE || ahead(gone, best))
                    && !joinedWithout(gone)) {
                best = gone;
            }
        }
        return best;
    }

    int bears(int k) {
        return k < 0 || k > 3 ? NONE : broken(k) == NONE ? 1 : 0;
    }

    /** By trying all sets of ties more: for very few people alone. */
    int mend() {
        List<int[]> missing = new ArrayList<>();
        for (int i = 0; i < people; i++) {
            for (int j = i + 1; j < people; j++) {
                if (!tied[i][j]) {
                    missing.add(new int[] {i, j});
                }
            }
        }
        boolean[][] kept = copy(tied);
        int fewest = NONE;
        for (int set = 0; set < 1 << missing.size(); set++) {
            if (fewest != NONE && Integer.bitCount(set) >= fewest) {
                continue;
            }
            tied = copy(kept);
            boolean fits = true;
            for (int i = 0; i < missing.size(); i++) {
                if ((set >> i & 1) != 0) {
                    put(missing.get(i)[0], missing.get(i)[1], true);
                }
            }
            for (int i = 0; i < people; i++) {
                fits &= degree(i) <= most[i];
            }
            if (fits && joinedWithout(0)) {
                fewest = Integer.bitCount(set);
            }
        }
        tied = kept;
        return fewest;
    }

    int value(int one) {
        if (!has(one)) {
            return NONE;
        }
        int[][] far = distances(0);
        int value = 0;
        for (int i = 0; i < people; i++) {
            if (i != one && far[one][i] < 99) {
                value += much[one][i] / (1 << (far[one][i] - 1));
            }
        }
        return value;
    }

    boolean canBe(int one, int drops, int takes, int theirs) {
        if (!two(one, takes) || tied[one][takes] || drops < NONE || theirs < NONE
                || drops >= people || theirs >= people
                || drops != NONE && !tied[one][drops] || theirs != NONE && !tied[takes][theirs]) {
            return false;
        }
        boolean[][] kept = copy(tied);
        make(one, drops, takes, theirs);
        boolean fits = true;
        for (int i = 0; i < people; i++) {
            fits &= degree(i) <= most[i];
        }
        tied = kept;
        return fits;
    }

    void make(int one, int drops, int takes, int theirs) {
        if (drops != NONE) {
            put(one, drops, false);
        }
        if (theirs != NONE) {
            put(takes, theirs, false);
        }
        put(one, takes, true);
    }

    int gain(int one, int drops, int takes, int theirs, int side) {
        if (side < 0 || side > 1 || !canBe(one, drops, takes, theirs)) {
            return HIDDEN;
        }
        int whose = side == 0 ? one : takes;
        int ahead = value(whose);
        boolean[][] kept = copy(tied);
        make(one, drops, takes, theirs);
        int behind = value(whose);
        tied = kept;
        return behind - ahead - ((side == 0 ? drops : theirs) == NONE ? 0 : cost);
    }

    boolean wanted(int one, int drops, int takes, int theirs) {
        return gain(one, drops, takes, theirs, 0) > 0 && gain(one, drops, takes, theirs, 1) > 0;
    }

    boolean change(int one, int drops, int takes, int theirs) {
        if (!wanted(one, drops, takes, theirs)) {
            return false;
        }
        make(one, drops, takes, theirs);
        return true;
    }

    /** Taken, dropped, theirs, gain; null if there is none. */
    int[] best(int one) {
        int[] best = null;
        for (int takes = 0; takes < people; takes++) {
            for (int drops = NONE; drops < people; drops++) {
                for (int theirs = NONE; theirs < people; theirs++) {
                    if (wanted(one, drops, takes, theirs)) {
                        int gain = gain(one, drops, takes, theirs, 0);
                        if (best == null || gain > best[3]) {
                            best = new int[] {takes, drops, theirs, gain};
                        }
                    }
                }
            }
        }
        return best;
    }

    int best(int one, int what) {
        int[] best = has(one) && what >= 0 && what <= 3 ? best(one) : null;
        return best == null ? HIDDEN : best[what];
    }

    int turn() {
        boolean[][] kept = copy(tied);
        int made = 0;
        int idle = 0;
        for (int one = 0; idle < people; one = (one + 1) % people) {
            int[] best = best(one);
            if (best == null) {
                idle++;
                continue;
            }
            idle = 0;
            make(one, best[1], best[0], best[2]);
            made++;
            if (made > 40) {
                tied = kept;
                return NONE;
            }
        }
        return made;
    }

    boolean stable() {
        for (int i = 0; i < people; i++) {
            if (best(i) != null) {
                return false;
            }
        }
        return true;
    }

    int common(int one, int other) {
        int common = 0;
        for (int i = 0; i < people; i++) {
            common += tied[one][i] && tied[other][i] ? 1 : 0;
        }
        return common;
    }

    /** Who has the letter behind each gift; it comes if the last one is the one meant. */
    List<Integer> letter(int rule, int from, int to) {
        List<Integer> holders = new ArrayList<>(List.of(from));
        int holder = from;
        while (holder != to && holders.size() <= 60 && degree(holder) > 0) {
            int next = NONE;
            long greatest = Long.MIN_VALUE;
            for (int i = 0; i < people; i++) {
                if (tied[holder][i]) {
                    int been = 0;
                    for (int h : holders) {
                        been += h == i ? 1 : 0;
                    }
                    int[] letters = {i == to ? 1 : 0, tied[i][to] ? 1 : 0, degree(i),
                        common(holder, i), been, Math.abs(i - to), 0, 0, 0};
                    long worth = PlainTexts.worth(rules.get(rule), letters);
                    if (worth > greatest) {
                        greatest = worth;
                        next = i;
                    }
                }
            }
            holder = next;
            holders.add(holder);
        }
        return holders;
    }

    int send(int rule, int from, int to, int i) {
        if (rule < 0 || rule >= rules.size() || !two(from, to)) {
            return NONE;
        }
        List<Integer> holders = letter(rule, from, to);
        if (i == NONE) {
            return holders.get(holders.size() - 1) == to ? holders.size() - 1 : NONE;
        }
        return i < 0 || i >= holders.size() ? NONE : holders.get(i);
    }

    int comes(int rule, int what) {
        if (rule < 0 || rule >= rules.size() || what < 0 || what > 1) {
            return NONE;
        }
        int got = 0;
        for (int from = 0; from < people; from++) {
            for (int to = 0; to < people; to++) {
                int gifts = send(rule, from, to, NONE);
                got += gifts == NONE ? 0 : what == 0 ? 1 : gifts;
            }
        }
        return got;
    }

    int years(int rule, int death, int n, long seed) {
        if (rule < 0 || rule >= rules.size() || death < 0 || death > 100 || n < 1 || n > 30) {
            return NONE;
        }
        BigInteger x = BigInteger.valueOf(seed);
        BigInteger round = BigInteger.ONE.shiftLeft(64);
        int dead = 0;
        for (int year = 0; year < n; year++) {
            for (int i = 0; i < people; i++) {
                x = x.multiply(BigInteger.valueOf(6364136223846793005L))
                        .add(BigInteger.valueOf(1442695040888963407L)).mod(round);
                int draw = x.shiftRight(33).mod(BigInteger.valueOf(100)).intValue();
                if (draw < death) {
                    for (int j = 0; j < people; j++) {
                        put(i, j, false);
                    }
                    age[i] = 0;
                    dead++;
                } else {
                    age[i]++;
                }
            }
            for (int i = 0; i < people; i++) {
                look(rule, i);
            }
        }
        return dead;
    }

    private void look(int rule, int one) {
        int[][] far = distances(0);
        int best = NONE;
        int least = NONE;
        long[] worths = new long[people];
        for (int i = 0; i < people; i++) {
            int[] letters = {0, 0, degree(i), common(one, i), 0, 0,
                far[one][i] == 99 ? 0 : far[one][i], age[i], most[i] - degree(i)};
            worths[i] = PlainTexts.worth(rules.get(rule), letters);
            if (i == one) {
                continue;
            }
            if (tied[one][i]) {
                least = least == NONE || worths[i] < worths[least] ? i : least;
            } else if (degree(i) < most[i]) {
                best = best == NONE || worths[i] > worths[best] ? i : best;
            }
        }
        if (best == NONE || most[one] == 0) {
            return;
        }
        if (degree(one) < most[one]) {
            if (worths[best] > 0) {
                put(one, best, true);
            }
        } else if (worths[best] > worths[least] + cost) {
            put(one, least, false);
            put(one, best, true);
        }
    }

    boolean[][] ringOf(int jumps) {
        if (jumps < 1 || jumps > 1023) {
            return null;
        }
        boolean[][] ring = new boolean[people][people];
        for (int jump = 1; jump <= 10; jump++) {
            if ((jumps >> jump - 1 & 1) == 0) {
                continue;
            }
            if (2 * jump > people) {
                return null;
            }
            for (int i = 0; i < people; i++) {
                ring[i][(i + jump) % people] = true;
                ring[i][(i + people - jump) % people] = true;
            }
        }
        return ring;
    }

    int ring(int jumps) {
        boolean[][] ring = ringOf(jumps);
        if (ring == null) {
            return NONE;
        }
        boolean[][] kept = tied;
        tied = ring;
        for (int i = 0; i < people; i++) {
            if (degree(i) > most[i]) {
                tied = kept;
                return NONE;
            }
        }
        return ties();
    }

    int fine(int many, int what) {
        if (many < 1 || many > 3 || what < 0 || what > 1) {
            return NONE;
        }
        boolean[][] kept = tied;
        int best = NONE;
        int least = NONE;
        for (int jumps = 1; jumps < 1024; jumps++) {
            tied = ringOf(jumps);
            if (tied != null && Integer.bitCount(jumps) == many) {
                int sum = sum(0, distances(0));
                if (least == NONE || sum < least) {
                    least = sum;
                    best = jumps;
                }
            }
        }
        tied = kept;
        return what == 0 ? best : least;
    }

    int bound(int ties) {
        if (ties < 1 || ties > 9) {
            return NONE;
        }
        List<Integer> away = new ArrayList<>();
        long many = ties;
        for (int step = 1; step <= 30; step++) {
            for (long i = 0; i < Math.min(many, 30); i++) {
                away.add(step);
            }
            many = Math.min(many * (ties - 1), 1000);
        }
        int sum = 0;
        for (int i = 0; i < people - 1; i++) {
            sum += i < away.size() ? away.get(i) : people;
        }
        return sum;
    }

    int image() {
        imageTied = copy(tied);
        imageMost = most.clone();
        imageAge = age.clone();
        return ties();
    }

    int back() {
        if (imageTied == null) {
            return NONE;
        }
        tied = copy(imageTied);
        most = imageMost.clone();
        age = imageAge.clone();
        return ties();
    }

    private int bestSet(IntPredicate fits, boolean great) {
        int best = NONE;
        for (int set = 0; set < 1 << people; set++) {
            if (!fits.test(set)) {
                continue;
            }
            int more = best == NONE ? 1 : Integer.bitCount(set) - Integer.bitCount(best);
            if (best == NONE || (great ? more > 0 : more < 0) || more == 0 && ahead(set, best)) {
                best = set;
            }
        }
        return best;
    }

    private boolean allTied(int set, boolean tie) {
        for (int i = 0; i < people; i++) {
            for (int j = i + 1; j < people; j++) {
                if ((set >> i & 1) != 0 && (set >> j & 1) != 0 && tied[i][j] != tie) {
                    return false;
                }
            }
        }
        return true;
    }

    int set(int what) {
        return switch (what) {
            case 0 -> bestSet(set -> allTied(set, true), true);
            case 1 -> bestSet(set -> allTied(set, false), true);
            case 2 -> bestSet(set -> heard(set, 1) == (1 << people) - 1, false);
            default -> NONE;
        };
    }

    int heard(int from, int rounds) {
        int heard = from;
        for (int r = 0; r < rounds; r++) {
            int next = heard;
            for (int i = 0; i < people; i++) {
                for (int j = 0; j < people; j++) {
                    next |= (heard >> i & 1) != 0 && tied[i][j] ? 1 << j : 0;
                }
            }
            heard = next;
        }
        return heard;
    }

    boolean bits(int from) {
        return from > 0 && from < 1 << people;
    }

    int word(int from, int rounds) {
        return bits(from) && rounds >= 0 && rounds <= 20 ? heard(from, rounds) : NONE;
    }

    int out(int from) {
        if (!bits(from)) {
            return NONE;
        }
        int[][] far = distances(0);
        int last = 0;
        for (int i = 0; i < people; i++) {
            int soonest = 99;
            for (int j = 0; j < people; j++) {
                soonest = (from >> j & 1) != 0 ? Math.min(soonest, far[j][i]) : soonest;
            }
            last = soonest < 99 ? Math.max(last, soonest) : last;
        }
        return last;
    }

    int begin(int many) {
        int best = NONE;
        for (int set = 1; set < 1 << people && many >= 1 && many <= 3; set++) {
            if (Integer.bitCount(set) != many) {
                continue;
            }
            int more = best == NONE ? 1
                    : Integer.bitCount(heard(set, 20)) - Integer.bitCount(heard(best, 20));
            int sooner = best == NONE ? 1 : out(best) - out(set);
            if (more > 0 || more == 0 && (sooner > 0 || sooner == 0 && ahead(set, best))) {
                best = set;
            }
        }
        return best;
    }

    int likely() {
        for (int many = people; many >= 0; many--) {
            for (int i = 0; i < people; i++) {
                for (int j = i + 1; j < people; j++) {
                    if (!tied[i][j] && common(i, j) == many) {
                        return 20 * i + j;
                    }
                }
            }
        }
        return NONE;
    }

    int threes(int what) {
        int closed = 0;
        int open = 0;
        for (int set = 0; set < 1 << people; set++) {
            if (Integer.bitCount(set) == 3) {
                int pairs = 0;
                for (int i = 0; i < people; i++) {
                    for (int j = i + 1; j < people; j++) {
                        pairs += (set >> i & 1) != 0 && (set >> j & 1) != 0 && tied[i][j] ? 1 : 0;
                    }
                }
                closed += pairs == 3 ? 1 : 0;
                open += pairs == 2 ? 1 : 0;
            }
        }
        int both = 3 * closed + open;
        return what == 0 ? closed : what == 1 ? open
                : what == 2 ? both == 0 ? 0 : 3000 * closed / both : NONE;
    }

    int courier(int what) {
        int best = NONE;
        int most = NONE;
        for (int one = 0; one < people; one++) {
            int[][] with = distances(0);
            int[][] without = distances(1 << one);
            int more = 0;
            for (int i = 0; i < people; i++) {
                for (int j = 0; j < people; j++) {
                    if (i != one && j != one) {
                        more += without[i][j] == 99 ? people : without[i][j];
                        more -= with[i][j] == 99 ? people : with[i][j];
                    }
                }
            }
            if (more > most) {
                most = more;
                best = one;
            }
        }
        return what == 0 ? best : what == 1 ? most : NONE;
    }

    int loss(int one, int other) {
        if (!two(one, other) || !tied[one][other]) {
            return NONE;
        }
        int ahead = sums();
        put(one, other, false);
        int behind = sums();
        put(one, other, true);
        return behind - ahead;
    }

    int dear(int what) {
        int best = NONE;
        int most = 0;
        for (int i = 0; i < people; i++) {
            for (int j = i + 1; j < people; j++) {
                int more = 0;
                if (what == 0 && tied[i][j]) {
                    more = loss(i, j);
                } else if (what == 1 && !tied[i][j] && degree(i) < most(i) && degree(j) < most(j)) {
                    more = sums();
                    put(i, j, true);
                    more -= sums();
                    put(i, j, false);
                }
                if (more > most) {
                    most = more;
                    best = 20 * i + j;
                }
            }
        }
        return best;
    }

    private int most(int one) {
        return most[one];
    }
}
