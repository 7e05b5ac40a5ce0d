import java.util.ArrayList;
import java.util.HashSet;
import java.util.List;
import java.util.Set;

/**
 * What the document says of texts, by other means than the class has: a rule's fault by all stacks
 * of signs still due at once, a rule's worth by cutting the text at its last loosest sign.
 */
final class PlainTexts {
    private static final String LETTERS = "tfkcbador";

    private PlainTexts() {
    }

    /** The first byte at which no net can go on, -1 if there is none. */
    static int faultOfNet(String text, int people, int[] most) {
        boolean[][] tied = new boolean[people][people];
        int[] ties = new int[people];
        int stage = 0;
        int first = -1;
        for (int i = 0; i < text.length(); i++) {
            char sign = text.charAt(i);
            if (sign == ' ') {
                continue;
            }
            if (stage == 2) {
                if (sign != ',') {
                    return i;
                }
                stage = 3;
                continue;
            }
            int one = sign - 'a';
            if (one < 0 || one >= people) {
                return i;
            }
            if (stage != 1) {
                first = one;
                stage = 1;
                continue;
            }
            if (one == first || tied[one][first] || ties[one] + 1 > most[one]
                    || ties[first] + 1 > most[first]) {
                return i;
            }
            tied[one][first] = true;
            tied[first][one] = true;
            ties[one]++;
            ties[first]++;
            stage = 2;
        }
        return stage == 0 || stage == 2 ? -1 : text.length();
    }

    /**
     * A stack is a text, its top first: R rule, M more clauses, K clause, C condition, c more of
     * it, H truth, h more of it, U unit, S sum, s more of it, P term, p more of it, A atom,
     * Q comparing, 3 2 1 that so many digits may come at once, x where a ! ends; others are signs.
     */
    static int faultOfRule(String text) {
        Set<String> stacks = new HashSet<>();
        stacks.add("R");
        for (int i = 0; i < text.length(); i++) {
            Set<String> next = new HashSet<>();
            for (String stack : stacks) {
                step(stack, text.charAt(i), next, 0);
            }
            if (next.isEmpty()) {
                return i;
            }
            stacks = next;
        }
        for (String stack : stacks) {
            if (mayEnd(stack)) {
                return -1;
            }
        }
        return text.length();
    }

    private static boolean mayEnd(String stack) {
        for (int i = 0; i < stack.length(); i++) {
            if ("Mchsp321x".indexOf(stack.charAt(i)) < 0) {
                return false;
            }
        }
        return true;
    }

    private static int open(String stack) {
        int open = 0;
        for (int i = 0; i < stack.length(); i++) {
            open += "x)]".indexOf(stack.charAt(i)) >= 0 ? 1 : 0;
        }
        return open;
    }

    private static void step(String stack, char sign, Set<String> next, int deep) {
        if (stack.isEmpty()) {
            if (sign == ' ') {
                next.add(stack);
            }
            return;
        }
        char top = stack.charAt(0);
        String rest = stack.substring(1);
        if (sign == ' ') {
            next.add("321".indexOf(top) >= 0 ? rest : stack);
            return;
        }
        boolean room = open(rest) < 6;
        switch (top) {
            case 'R' -> step("KM" + rest, sign, next, deep);
            case 'M' -> {
                if (sign == ';') {
                    next.add("KM" + rest);
                }
            }
            case 'K' -> {
                if (sign == 'y') {
                    next.add(":S" + rest);
                    next.add(":C?S" + rest);
                }
            }
            case 'C' -> step("Hc" + rest, sign, next, deep);
            case 'c' -> more("|", "Hc", sign, rest, next, deep);
            case 'H' -> step("Uh" + rest, sign, next, deep);
            case 'h' -> more("&", "Uh", sign, rest, next, deep);
            case 'U' -> {
                if (sign == '!' && room) {
                    next.add("Ux" + rest);
                } else if (sign == '(' && room) {
                    next.add("C)" + rest);
                }
                step("SQS" + rest, sign, next, deep);
            }
            case 'Q' -> {
                if ("=<>".indexOf(sign) >= 0) {
                    next.add(rest);
                }
            }
            case 'S' -> step("Ps" + rest, sign, next, deep);
            case 's' -> more("+-", "Ps", sign, rest, next, deep);
            case 'P' -> step("Ap" + rest, sign, next, deep);
            case 'p' -> more("*/", "Ap", sign, rest, next, deep);
            case 'A' -> {
                if (sign >= '0' && sign <= '9') {
                    next.add("3" + rest);
                } else if (LETTERS.indexOf(sign) >= 0) {
                    next.add(rest);
                } else if (sign == '[' && room) {
                    next.add("S]" + rest);
                }
            }
            case '3', '2', '1' -> {
                if (sign >= '0' && sign <= '9') {
                    next.add((top == '1' ? "" : "" + (char) (top - 1)) + rest);
                    if (top == '1') {
                        return;
                    }
                }
                step(rest, sign, next, deep + 1);
            }
            case 'x' -> step(rest, sign, next, deep + 1);
            default -> {
                if (sign == top) {
                    next.add(rest);
                }
            }
        }
    }

    private static void more(String signs, String then, char sign, String rest, Set<String> next,
            int deep) {
        if (signs.indexOf(sign) >= 0) {
            next.add(then + rest);
        } else {
            step(rest, sign, next, deep);
        }
    }

    /** What somebody is worth by a rule without faults; letters in the order of LETTERS. */
    static long worth(String rule, int[] letters) {
        for (String clause : cut(rule.replace(" ", ""), ";")) {
            String told = clause.substring(2);
            int mark = told.indexOf('?');
            if (mark < 0) {
                return sum(told, letters);
            }
            if (holds(told.substring(0, mark), letters)) {
                return sum(told.substring(mark + 1), letters);
            }
        }
        return 0;
    }

    /** The pieces between these signs, where no bracket is open. */
    private static List<String> cut(String text, String signs) {
        List<String> pieces = new ArrayList<>();
        int open = 0;
        int from = 0;
        for (int i = 0; i < text.length(); i++) {
            char sign = text.charAt(i);
            open += sign == '(' || sign == '[' ? 1 : sign == ')' || sign == ']' ? -1 : 0;
            if (open == 0 && signs.indexOf(sign) >= 0) {
                pieces.add(text.substring(from, i));
                from = i + 1;
            }
        }
        pieces.add(text.substring(from));
        return pieces;
    }

    private static boolean holds(String text, int[] letters) {
        for (String truth : cut(text, "|")) {
            boolean all = true;
            for (String unit : cut(truth, "&")) {
                all &= unit(unit, letters);
            }
            if (all) {
                return true;
            }
        }
        return false;
    }

    private static boolean unit(String text, int[] letters) {
        if (text.charAt(0) == '!') {
            return !unit(text.substring(1), letters);
        }
        if (text.charAt(0) == '(') {
            return holds(text.substring(1, text.length() - 1), letters);
        }
        List<String> sums = cut(text, "=<>");
        long left = sum(sums.get(0), letters);
        long right = sum(sums.get(1), letters);
        char sign = text.charAt(sums.get(0).length());
        return sign == '=' ? left == right : sign == '<' ? left < right : left > right;
    }

    private static int last(String text, String signs) {
        int open = 0;
        for (int i = text.length() - 1; i >= 0; i--) {
            char sign = text.charAt(i);
            open += sign == ']' ? 1 : sign == '[' ? -1 : 0;
            if (open == 0 && signs.indexOf(sign) >= 0) {
                return i;
            }
        }
        return -1;
    }

    private static long sum(String text, int[] letters) {
        int at = last(text, "+-");
        if (at < 0) {
            at = last(text, "*/");
        }
        if (at < 0) {
            char sign = text.charAt(0);
            if (sign == '[') {
                return sum(text.substring(1, text.length() - 1), letters);
            }
            int letter = LETTERS.indexOf(sign);
            return letter >= 0 ? letters[letter] : Long.parseLong(text);
        }
        long left = sum(text.substring(0, at), letters);
        long right = sum(text.substring(at + 1), letters);
        long got = switch (text.charAt(at)) {
            case '+' -> left + right;
            case '-' -> left - right;
            case '*' -> left * right;
            default -> right == 0 ? 0 : left / right;
        };
        return got > 1000000 ? 1000000 : got < -1000000 ? -1000000 : got;
    }
}
