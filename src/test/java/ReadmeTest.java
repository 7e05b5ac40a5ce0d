import java.io.ByteArrayOutputStream;
import java.io.IOException;
import java.io.PrintStream;
import java.net.URL;
import java.net.URLClassLoader;
import java.nio.charset.StandardCharsets;
import java.nio.file.DirectoryStream;
import java.nio.file.Files;
import java.nio.file.Path;
import java.util.ArrayList;
import java.util.Comparator;
import java.util.List;
import java.util.Set;
import java.util.TreeSet;
import java.util.regex.Matcher;
import java.util.regex.Pattern;
import java.util.stream.Stream;
import javax.tools.ToolProvider;

/**
 * README.md is true: its program prints what it says, its table has each test of the project, and
 * the files that it names are there.
 */
public final class ReadmeTest {
    private static final Path TESTS = Path.of("src/test/java");

    private ReadmeTest() {
    }

    public static void main(String[] args) throws Exception {
        String readme = Files.readString(Path.of("README.md"), StandardCharsets.UTF_8);
        program(blocks(readme, "java").get(0), blocks(readme, "text").get(0));
        table(readme);
        files(readme);
        Due.report();
    }

    private static List<String> blocks(String readme, String kind) {
        List<String> blocks = new ArrayList<>();
        Matcher found = Pattern.compile("```" + kind + "\n(.*?)```", Pattern.DOTALL)
                .matcher(readme);
        while (found.find()) {
            blocks.add(found.group(1));
        }
        return blocks;
    }

    private static void program(String source, String due) throws Exception {
        Path there = Files.createTempDirectory("readme");
        try {
            Path file = there.resolve("Visit.java");
            Files.writeString(file, source);
            int failed = ToolProvider.getSystemJavaCompiler().run(null, null, null, "-cp",
                    System.getProperty("java.class.path"), "-d", there.toString(), file.toString());
            Due.same("the program compiles", failed, 0);
            List<String> got = printed(there).lines().toList();
            List<String> told = due.lines().toList();
            Due.same("lines printed", got.size(), told.size());
            List<String> comments = new ArrayList<>();
            Matcher comment = Pattern.compile("println.*// ([^:\\s]+):").matcher(source);
            while (comment.find()) {
                comments.add(comment.group(1));
            }
            Due.same("lines with an answer behind", comments.size(), told.size());
            for (int i = 0; i < Math.min(got.size(), told.size()); i++) {
                Due.yes("line " + i + " prints " + got.get(i), got.get(i).equals(told.get(i))
                        && i < comments.size() && got.get(i).equals(comments.get(i)));
            }
        } finally {
            remove(there);
        }
    }

    private static String printed(Path there) throws Exception {
        PrintStream out = System.out;
        ByteArrayOutputStream kept = new ByteArrayOutputStream();
        try (URLClassLoader loader = new URLClassLoader(new URL[] {there.toUri().toURL()})) {
            System.setOut(new PrintStream(kept, true, StandardCharsets.UTF_8));
            loader.loadClass("Visit").getMethod("main", String[].class)
                    .invoke(null, (Object) new String[0]);
        } finally {
            System.setOut(out);
        }
        return kept.toString(StandardCharsets.UTF_8);
    }

    private static void remove(Path directory) throws IOException {
        try (Stream<Path> all = Files.walk(directory)) {
            for (Path path : all.sorted(Comparator.reverseOrder()).toList()) {
                Files.delete(path);
            }
        }
    }

    private static void table(String readme) throws IOException {
        Set<String> told = new TreeSet<>();
        Matcher row = Pattern.compile("(?m)^\\| `(\\w+)` \\|").matcher(readme);
        while (row.find()) {
            told.add(row.group(1));
        }
        Set<String> there = new TreeSet<>();
        try (DirectoryStream<Path> tests = Files.newDirectoryStream(TESTS, "*Test.java")) {
            for (Path test : tests) {
                there.add(test.getFileName().toString().replace(".java", ""));
            }
        }
        Set<String> both = new TreeSet<>(told);
        both.addAll(there);
        for (String test : both) {
            Due.yes(test + " is told and there", told.contains(test) && there.contains(test));
        }
    }

    /** Each path that the page names; of one with a star the directory. */
    private static void files(String readme) {
        int named = 0;
        Matcher path = Pattern.compile("(?:\\.\\./shared|src|\\.ci)/[\\w./*]*\\w|\\w+\\.md")
                .matcher(readme.replace("SomethingTest.java", "*Test.java"));
        while (path.find()) {
            String file = path.group();
            named++;
            if (file.equals("LANGUAGE.md")) {
                file = "../shared/LANGUAGE.md";
            }
            String looked = file.contains("*") ? file.substring(0, file.lastIndexOf('/')) : file;
            Due.yes(file + " is there", Files.exists(Path.of(looked)));
        }
        Due.yes("files are named", named > 10);
    }
}
