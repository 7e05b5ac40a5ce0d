import java.io.IOException;
import java.lang.reflect.Field;
import java.lang.reflect.Method;
import java.lang.reflect.Modifier;
import java.nio.charset.StandardCharsets;
import java.nio.file.Files;
import java.nio.file.Path;
import java.util.HashSet;
import java.util.List;
import java.util.Set;
import java.util.TreeSet;

/** The face as the document has it, and the rules of LANGUAGE.md that can be looked up. */
public final class FaceTest {
    private static final Path SOURCE = Path.of("src/main/java/SevenTown.java");
    private static final Path DOCUMENT = Path.of("../shared/DOC.md");

    private FaceTest() {
    }

    public static void main(String[] args) throws IOException {
        face();
        classes();
        List<String> lines = Files.readAllLines(SOURCE, StandardCharsets.UTF_8);
        signs(lines);
        words(lines);
        lengths(lines);
        recursion(lines);
        Due.report();
    }

    /** The lines of the document that tell a method or a constructor, blanks and semicolons cut. */
    private static Set<String> told() throws IOException {
        Set<String> told = new TreeSet<>();
        boolean face = false;
        for (String line : Files.readAllLines(DOCUMENT, StandardCharsets.UTF_8)) {
            face |= line.startsWith("public final class SevenTown");
            if (face && line.startsWith("```")) {
                return told;
            }
            if (face && line.startsWith("    public ") && line.contains("(")) {
                told.add(line.trim().replace(";", "").replaceAll(" (\\w+)([,)])", "$2"));
            }
        }
        return told;
    }

    private static void face() throws IOException {
        Set<String> face = new TreeSet<>();
        Due.same("constructors", SevenTown.class.getDeclaredConstructors().length, 1);
        face.add("public SevenTown(int)");
        for (Method method : SevenTown.class.getDeclaredMethods()) {
            if (!Modifier.isPrivate(method.getModifiers()) && !method.isSynthetic()) {
                Due.yes("public " + method, Modifier.isPublic(method.getModifiers()));
                face.add(asTold(method));
            }
        }
        Set<String> told = told();
        Due.same("calls of the face", told.size(), 46);
        Set<String> unlike = new TreeSet<>(face);
        unlike.addAll(told);
        for (String call : unlike) {
            Due.yes(call + " is told and there", told.contains(call) && face.contains(call));
        }
        int modifiers = SevenTown.class.getModifiers();
        Due.yes("public and final", Modifier.isPublic(modifiers) && Modifier.isFinal(modifiers));
        for (Field field : SevenTown.class.getDeclaredFields()) {
            boolean constant = field.getName().equals("NONE") || field.getName().equals("HIDDEN");
            int due = constant ? Modifier.PUBLIC | Modifier.STATIC | Modifier.FINAL
                    : field.getModifiers() & ~Modifier.PUBLIC & ~Modifier.PROTECTED
                            | Modifier.PRIVATE;
            Due.same("modifiers of " + field, field.getModifiers(), due);
        }
    }

    private static String asTold(Method method) {
        StringBuilder told = new StringBuilder("public ");
        told.append(method.getReturnType().getSimpleName()).append(' ').append(method.getName());
        told.append('(');
        for (int i = 0; i < method.getParameterCount(); i++) {
            told.append(i > 0 ? ", " : "").append(method.getParameterTypes()[i].getSimpleName());
        }
        told.append(')');
        for (Class<?> thrown : method.getExceptionTypes()) {
            told.append(" throws ").append(thrown.getSimpleName());
        }
        return told.toString();
    }

    private static void classes() {
        Set<String> publicNames = new HashSet<>();
        for (Method method : SevenTown.class.getDeclaredMethods()) {
            if (Modifier.isPublic(method.getModifiers())) {
                publicNames.add(method.getName());
            }
        }
        Class<?>[] inside = SevenTown.class.getDeclaredClasses();
        Due.yes("at most twelve classes", inside.length + 1 <= 12);
        methods(SevenTown.class, publicNames);
        for (Class<?> one : inside) {
            Due.yes(one + " is private and static", Modifier.isPrivate(one.getModifiers())
                    && Modifier.isStatic(one.getModifiers()));
            methods(one, publicNames);
        }
    }

    private static void methods(Class<?> one, Set<String> publicNames) {
        int fields = 0;
        for (Field field : one.getDeclaredFields()) {
            boolean isStatic = Modifier.isStatic(field.getModifiers());
            fields += isStatic ? 0 : 1;
            Due.yes(field + " is final", !isStatic || Modifier.isFinal(field.getModifiers()));
        }
        Due.yes(one + " has few fields", fields <= 20);
        for (Method method : one.getDeclaredMethods()) {
            Due.yes(method + " takes few", method.getParameterCount() <= 7);
            Due.yes(method + " has a name of its own", Modifier.isPublic(method.getModifiers())
                    || !publicNames.contains(method.getName()));
        }
    }

    private static void signs(List<String> lines) {
        for (String line : lines) {
            boolean plain = true;
            for (char sign : line.toCharArray()) {
                plain &= sign >= 32 && sign < 127;
            }
            Due.yes("plain signs: " + line, plain && line.length() <= 100);
        }
    }

    private static void words(List<String> lines) {
        String[] never = {"->", "::", "try", "catch", "finally", "synchronized", "assert",
            "instanceof", "Random", "Thread", "currentTimeMillis", "nanoTime", "Exact", "package",
            "Object", "Integer>", "protected", "static {", "@", "equals", "hashCode", "toString"};
        for (String line : lines) {
            String code = line.replaceAll("^\\s*(/?\\*|//).*", "");
            for (String word : never) {
                boolean there = word.matches("[a-z]+") ? code.matches(".*\\b" + word + "\\b.*")
                        : code.contains(word);
                Due.no("<" + word + "> in " + line, there);
            }
            Due.yes("a library told of: " + line, !code.startsWith("import ")
                    || code.equals("import java.util.Arrays;")
                    || code.equals("import java.util.NoSuchElementException;"));
        }
    }

    /** The margin of the line if it opens a method, -1 if it does not. */
    private static int opens(String line) {
        int margin = line.length() - line.stripLeading().length();
        boolean may = (margin == 4 || margin == 8) && line.substring(margin)
                .matches("(?!(for|if|while|switch) )[\\w\\[\\] ]+\\(.*[{,]");
        return may ? margin : -1;
    }

    /** A method ends with the line that closes at the same margin. */
    private static int end(List<String> lines, int from, int margin) {
        int end = from;
        while (!lines.get(end).equals(" ".repeat(margin) + "}")) {
            end++;
        }
        return end;
    }

    private static void lengths(List<String> lines) {
        int methods = 0;
        for (int i = 0; i < lines.size(); i++) {
            int margin = opens(lines.get(i));
            if (margin >= 0) {
                methods++;
                Due.yes("at most sixty lines: " + lines.get(i),
                        end(lines, i, margin) - i + 1 <= 60);
            }
        }
        Due.yes("all methods are found: " + methods, methods > 150);
    }

    /** A method that calls itself is private and static (two that call one another need not be). */
    private static void recursion(List<String> lines) {
        int found = 0;
        for (int i = 0; i < lines.size(); i++) {
            int margin = opens(lines.get(i));
            if (margin < 0) {
                continue;
            }
            String head = lines.get(i).substring(0, lines.get(i).indexOf('('));
            String itself = "(?s).*[^\\w.]" + head.substring(head.lastIndexOf(' ') + 1) + "\\(.*";
            String body = String.join("\n", lines.subList(i + 1, end(lines, i, margin)));
            if (body.matches(itself)) {
                found++;
                Due.yes("calls itself: " + head, head.trim().startsWith("private static "));
            }
        }
        Due.same("methods that call themselves", found, 2);
    }
}
