import java.util.NoSuchElementException;
import java.util.function.BooleanSupplier;
import java.util.function.LongSupplier;

/**
 * What every test counts with: answers due, texts fed as bytes, and the sentences of the document
 * for which the answers are asked (SentencesTest looks whether each has its tests).
 */
final class Due {
    private static String asked = "";
    private static int wrong = 0;
    private static int looked = 0;

    private Due() {
    }

    /** What is asked from here on is asked for these words of a promise. */
    static void promise(int number, String words) {
        asked = "Promise " + number + " <" + words + ">: ";
    }

    /** What is asked from here on is asked for these words of the document's terms. */
    static void term(String words) {
        asked = "Terms <" + words + ">: ";
    }

    static void same(String call, long got, long due) {
        looked++;
        if (got != due) {
            wrong++;
            if (wrong <= 40) {
                System.out.println(asked + call + " answered " + got + ", due is " + due);
            }
        }
    }

    static void yes(String call, boolean got) {
        same(call, got ? 1 : 0, 1);
    }

    static void no(String call, boolean got) {
        same(call, got ? 1 : 0, 0);
    }

    /** A call that is refused: it answers as due and leaves everything as it was. */
    static void refused(SevenTown town, String call, long due, LongSupplier made) {
        String ahead = Look.all(town);
        same(call, made.getAsLong(), due);
        yes(call + " changes nothing", Look.all(town).equals(ahead));
    }

    /** A call that is refused by false. */
    static void refused(SevenTown town, String call, BooleanSupplier made) {
        refused(town, call, 0, () -> made.getAsBoolean() ? 1 : 0);
    }

    /** Calls that are refused, one behind the other: together they leave everything as it was. */
    static void unchanged(SevenTown town, Runnable calls) {
        String ahead = Look.all(town);
        calls.run();
        yes("what is refused changes nothing", Look.all(town).equals(ahead));
    }

    /** Ends the test with 1 if an answer was not as due. */
    static void report() {
        System.out.println(looked + " answers, " + wrong + " wrong");
        if (wrong > 0 || looked == 0) {
            System.exit(1);
        }
    }

    /** The bits of these numbers. */
    static int bits(int... ones) {
        int bits = 0;
        for (int one : ones) {
            bits |= 1 << one;
        }
        return bits;
    }

    static int fourBytes(String text, int at) {
        int four = 0;
        for (int i = at; i < at + 4; i++) {
            four = four << 8 | (i < text.length() ? text.charAt(i) & 255 : 0);
        }
        return four;
    }

    /** Makes the text the tape; false if it is refused. */
    static boolean feed(SevenTown town, String text) {
        town.end(0);
        for (int at = 0; at < text.length(); at += 20) {
            int fed = town.feed(fourBytes(text, at), fourBytes(text, at + 4),
                    fourBytes(text, at + 8), fourBytes(text, at + 12), fourBytes(text, at + 16));
            if (fed == SevenTown.NONE) {
                return false;
            }
        }
        return true;
    }

    static int fault(SevenTown town, int sort, String text) {
        feed(town, text);
        return town.fault(sort);
    }

    static int text(SevenTown town, int sort, String text) {
        feed(town, text);
        return town.text(sort);
    }

    static SevenTown town(int people, String net) {
        SevenTown town = new SevenTown(people);
        if (text(town, 0, net) == SevenTown.NONE) {
            throw new IllegalStateException("no net: " + net);
        }
        return town;
    }

    /** A town with a net and with a rule, whose number is 0. */
    static SevenTown town(int people, String net, String rule) {
        SevenTown town = town(people, net);
        if (text(town, 1, rule) == SevenTown.NONE) {
            throw new IllegalStateException("no rule: " + rule);
        }
        return town;
    }

    /** Whom one knows; -2 if there is no such one. */
    static int knows(SevenTown town, int one) {
        try {
            return town.knows(one);
        } catch (NoSuchElementException e) {
            return -2;
        }
    }
}
