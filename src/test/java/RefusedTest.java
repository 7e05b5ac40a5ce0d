import java.util.NoSuchElementException;
import java.util.Random;

/**
 * Calls with any numbers at all: nothing is thrown but by knows, what is refused changes nothing,
 * and what only looks changes nothing.
 */
public final class RefusedTest {
    private static final int[] ODD = {Integer.MIN_VALUE, Integer.MIN_VALUE + 1, -1000000, -65, -33,
        -32, -3, -2, -1, 0, 1, 2, 3, 4, 5, 7, 9, 10, 19, 20, 21, 31, 32, 33, 60, 61, 63, 64, 99,
        100, 101, 200, 201, 1023, 1024, 1 << 20, (1 << 20) - 1, Integer.MAX_VALUE};

    private final Random random;
    private final SevenTown town;

    private RefusedTest(long seed) {
        random = new Random(seed);
        town = new SevenTown(2 + random.nextInt(19));
    }

    public static void main(String[] args) {
        Due.term("What is refused answers as told and changes nothing.");
        for (int seed = 0; seed < 5000; seed++) {
            new RefusedTest(seed).run();
        }
        Due.report();
    }

    private int any() {
        return random.nextInt(3) == 0 ? ODD[random.nextInt(ODD.length)]
                : random.nextInt(town.count(0)) - (random.nextInt(5) == 0 ? 1 : 0);
    }

    private void run() {
        for (int i = 0; i < 2; i++) {
            Due.text(town, 1, i == 0 ? "y:0-b*k+c" : "y:d>1|k=0?c+o+1;y:r-d");
        }
        for (int i = random.nextInt(40); i > 0; i--) {
            answer(random.nextInt(46));
        }
        String ahead = Look.all(town);
        int call = random.nextInt(46);
        if (answer(call)) {
            Due.yes("call " + call + " changes nothing", Look.all(town).equals(ahead));
        }
    }

    /** Makes the call; whether it is refused or only looks. */
    private boolean answer(int call) {
        if (call < 20) {
            return change(call);
        }
        if (call < 33) {
            lookAtNet(call);
        } else {
            lookAtTown(call);
        }
        return true;
    }

    private boolean change(int call) {
        int a = any();
        int b = any();
        switch (call) {
            case 0: return town.feed(any(), any(), any(), any(), any()) == -1;
            case 1: return !town.end(a);
            case 2: return town.text(a) == -1;
            case 3: return !town.most(a, b);
            case 4, 5, 6, 7, 8: return !town.tie(a, b);
            case 9: return !town.drop(a, b);
            case 10, 11, 12, 13: return !town.need(a, b, random.nextInt(120) - 5);
            case 14: return !town.cost(a);
            case 15: return !town.change(a, any(), b, any());
            case 16: return town.turn() < 1;
            case 17: return town.years(a, b, any(), random.nextLong()) == -1;
            case 18: return town.ring(a) == -1;
            default: return random.nextBoolean() ? town.image() >= 0 : town.back() == -1;
        }
    }

    private void lookAtNet(int call) {
        int a = any();
        int b = any();
        switch (call) {
            case 20 -> town.fault(a);
            case 21 -> {
                boolean thrown = false;
                try {
                    town.knows(a);
                } catch (NoSuchElementException e) {
                    thrown = true;
                }
                Due.same("knows throws", thrown ? 1 : 0, a < 0 || a >= town.count(0) ? 1 : 0);
            }
            case 22 -> town.far(a, b);
            case 23 -> town.ways(a, b);
            case 24 -> town.over(a, b, any());
            case 25 -> town.of(a, b);
            case 26 -> town.all(a);
            case 27 -> town.load(a, b);
            case 28 -> town.apart(a, b);
            case 29 -> town.bears(a);
            case 30 -> town.broken(a);
            case 31 -> town.mend();
            default -> town.value(a);
        }
    }

    private void lookAtTown(int call) {
        int a = any();
        int b = any();
        switch (call) {
            case 33 -> town.gain(a, any(), b, any(), any());
            case 34 -> town.best(a, b);
            case 35 -> town.stable();
            case 36 -> town.send(any(), a, b, any());
            case 37 -> town.comes(a, b);
            case 38 -> town.fine(a, b);
            case 39 -> town.bound(a);
            case 40 -> town.set(a);
            case 41 -> town.word(a, b);
            case 42 -> town.out(a);
            case 43 -> town.begin(a);
            case 44 -> {
                town.common(a, b);
                town.likely();
                town.threes(a);
            }
            default -> {
                town.courier(a);
                town.loss(a, b);
                town.dear(a);
                town.count(a);
            }
        }
    }
}
