import java.io.IOException;
import java.io.UncheckedIOException;
import java.lang.reflect.Method;
import java.lang.reflect.Modifier;
import java.nio.charset.StandardCharsets;
import java.nio.file.Files;
import java.nio.file.Path;
import java.nio.file.StandardCopyOption;
import java.util.ArrayList;
import java.util.Comparator;
import java.util.List;
import java.util.Set;
import java.util.TreeSet;
import java.util.regex.Matcher;
import java.util.regex.Pattern;
import java.util.stream.Stream;

/** What README.md says of using the class and of running its tests is so: it is done as it says, in a copy. */
public final class Readme extends Checks {
    private static final Pattern BLOCK = Pattern.compile("(?ms)^```(\\w+)\\n(.*?)^```$");
    private static final Pattern PRINTING = Pattern.compile("System\\.out\\.println\\((.*)\\);(.*)");
    private static final Pattern TOLD = Pattern.compile(" // (-?\\d+|true|false): .*");
    private static final Pattern CALL = Pattern.compile("x\\.(\\w+)\\(");
    private static final Pattern FILE = Pattern.compile("`((?:\\.\\./|\\.ci/|src/|NOTES)[\\w./]*)`");
    private static final Pattern MAIN = Pattern.compile("static\\s+void\\s+main\\s*\\(");
    private static final String CLASS = "src/main/java/LieOfTwo.java";
    private static final String TESTS = "src/test/java";
    private static final String SHARED = "../shared/tests";

    private static Path root;
    private static Path copies;
    private static String readme;

    private record Ended(int exit, String output) { }

    public static void main(String[] args) throws IOException {
        begin(args);
        root = Path.of(args.length > 0 ? args[0] : ".").toAbsolutePath().normalize();
        readme = Files.readString(root.resolve("README.md"));
        copies = Files.createTempDirectory("readme");
        try {
            section("the example");
            example();
            section("the files");
            files();
            section("a test alone");
            testAlone();
            section("the command that runs the tests");
            allTests();
            oneFails();
        } finally {
            remove(copies);
        }
        end();
    }

    /** The blocks of one sort under a heading, in their order. */
    private static List<String> blocks(String heading, String sort) {
        int from = readme.indexOf("\n## " + heading + "\n");
        int to = readme.indexOf("\n## ", from + 1);
        List<String> found = new ArrayList<>();
        Matcher m = BLOCK.matcher(from < 0 ? "" : readme.substring(from, to < 0 ? readme.length() : to));
        while (m.find()) {
            if (m.group(1).equals(sort)) {
                found.add(m.group(2));
            }
        }
        return found;
    }

    private static String block(String heading, String sort, int i) {
        List<String> found = blocks(heading, sort);
        must(found.size() > i, heading + " has a block " + i + " of " + sort);
        return found.size() > i ? found.get(i) : "";
    }

    private static void must(boolean holds, String what) {
        due(what, holds, true);
    }

    private static void example() throws IOException {
        String program = block("Use", "java", 0);
        List<String> told = answersTold(program);
        Path at = newCopy("example");
        put(at.resolve("Example.java"), program);
        Ended ended = run(at, block("Use", "sh", 0));
        must(ended.exit == 0, "exit code 0 of the example: " + ended.output);
        String[] lines = ended.output.split("\n");
        due("lines that the example prints", lines.length, told.size());
        for (int i = 0; i < Math.min(lines.length, told.size()); i++) {
            must(lines[i].equals(told.get(i)), "line " + i + " is " + lines[i] + ", README.md tells " + told.get(i));
        }
        everyCallIsShown(program);
    }

    /** What each line of the example that prints says it prints. */
    private static List<String> answersTold(String program) {
        List<String> told = new ArrayList<>();
        Matcher m = PRINTING.matcher(program);
        while (m.find()) {
            Matcher answer = TOLD.matcher(m.group(2));
            boolean tells = answer.matches();
            must(tells, "the example tells what " + m.group(1) + " answers");
            told.add(tells ? answer.group(1) : "");
        }
        return told;
    }

    private static void everyCallIsShown(String program) {
        Set<String> shown = new TreeSet<>();
        Matcher m = CALL.matcher(program);
        while (m.find()) {
            shown.add(m.group(1));
        }
        for (Method method : LieOfTwo.class.getDeclaredMethods()) {
            if (Modifier.isPublic(method.getModifiers())) {
                must(shown.contains(method.getName()), "the example shows " + method.getName());
            }
        }
    }

    private static void files() throws IOException {
        Set<String> named = new TreeSet<>();
        Matcher m = FILE.matcher(readme);
        while (m.find()) {
            named.add(m.group(1));
            must(Files.exists(root.resolve(m.group(1))), m.group(1) + " is there");
        }
        for (String file : javaFiles(root.resolve(TESTS))) {
            must(named.contains(TESTS + "/" + file), "README.md names " + file);
        }
    }

    private static void testAlone() throws IOException {
        Path at = newCopy("alone");
        copy(root.resolve(TESTS), at.resolve(TESTS));
        copy(root.resolve("../shared"), at.resolve("../shared"));
        Ended ended = run(at, block("Tests", "sh", 1));
        must(ended.exit == 0, "exit code 0 of a test alone: " + ended.output);
        must(ended.output.contains(" checks, 0 wrong\n"), "a test alone counts its checks: " + ended.output);
        must(ended.output.contains("all alike"), "seeds of Compared: " + ended.output);
    }

    /** Small tests stand for the true ones, which would run twice and call this one for ever. */
    private static void allTests() throws IOException {
        Path at = newCopy("all");
        List<String> names = new ArrayList<>();
        for (String file : javaFiles(root.resolve(TESTS))) {
            String code = Files.readString(root.resolve(TESTS).resolve(file));
            if (MAIN.matcher(code).find()) {
                must(code.contains("static void main("), file + " has its main as .ci/run looks for it");
                names.add(putTest(at.resolve(TESTS), file, 0));
            }
        }
        int own = names.size();
        must(own > 0, "there are tests of the project");
        for (String file : javaFiles(root.resolve(SHARED))) {
            names.add(putTest(at.resolve(SHARED), file, 0));
        }
        must(names.size() > own, "there are shared tests");
        Ended ended = run(at, block("Tests", "sh", 0));
        must(ended.exit == 0, "exit code 0 if each passes: " + ended.output);
        for (String name : names) {
            must(("\n" + ended.output).contains("\nran " + name + "\n"), name + " is run: " + ended.output);
        }
    }

    /** The command fails if one test does, or can't be compiled, or if there is none. */
    private static void oneFails() throws IOException {
        for (int what = 0; what < 7; what++) {
            Path at = newCopy("fails" + what);
            Path own = at.resolve(TESTS);
            Path shared = at.resolve(SHARED);
            if (what == 5) {
                put(own.resolve("NoTest.java"), "final class NoTest { }\n");
            } else {
                putTest(own, "Mine.java", what == 1 ? 1 : 0);
            }
            if (what != 6) {
                putTest(shared, "Ours.java", what == 2 ? 1 : 0);
            }
            if (what == 3) {
                put(own.resolve("Broken.java"), "final class Broken { int x = \"\"; }\n");
            } else if (what == 4) {
                put(shared.resolve("Broken.java"), "final class Broken { int x = \"\"; }\n");
            }
            Ended ended = run(at, block("Tests", "sh", 0));
            must(ended.exit == 0 == (what == 0), "exit code " + ended.exit + " in case " + what + ": " + ended.output);
        }
    }

    private static String putTest(Path directory, String file, int exit) {
        String name = file.substring(0, file.length() - ".java".length());
        put(directory.resolve(file), "public final class " + name + " {\n    public static void main(String[] args) {\n"
            + "        System.out.println(\"ran " + name + "\");\n        System.exit(new LieOfTwo().end(0) + " + exit + ");\n"
            + "    }\n}\n");
        return name;
    }

    /** A project beside its shared: the class and the script that runs the tests, and no tests. */
    private static Path newCopy(String name) throws IOException {
        Path at = copies.resolve(name).resolve("main");
        copy(root.resolve(CLASS), at.resolve(CLASS));
        copy(root.resolve(".ci"), at.resolve(".ci"));
        return at;
    }

    private static List<String> javaFiles(Path directory) throws IOException {
        List<String> files = new ArrayList<>();
        if (Files.isDirectory(directory)) {
            try (Stream<Path> all = Files.list(directory)) {
                all.map(path -> path.getFileName().toString()).filter(file -> file.endsWith(".java")).sorted().forEach(files::add);
            }
        }
        return files;
    }

    private static void put(Path file, String text) {
        try {
            Files.createDirectories(file.normalize().getParent());
            Files.writeString(file.normalize(), text);
        } catch (IOException e) {
            throw new UncheckedIOException(e);
        }
    }

    // COPY_ATTRIBUTES keeps the script executable.
    private static void copy(Path from, Path to) throws IOException {
        Path target = to.normalize();
        try (Stream<Path> all = Files.walk(from.normalize())) {
            for (Path path : (Iterable<Path>) all::iterator) {
                Path other = target.resolve(from.normalize().relativize(path).toString()).normalize();
                if (Files.isDirectory(path)) {
                    Files.createDirectories(other);
                } else {
                    Files.createDirectories(other.getParent());
                    Files.copy(path, other, StandardCopyOption.COPY_ATTRIBUTES);
                }
            }
        }
    }

    private static void remove(Path directory) throws IOException {
        try (Stream<Path> all = Files.walk(directory)) {
            for (Path path : (Iterable<Path>) all.sorted(Comparator.reverseOrder())::iterator) {
                Files.delete(path);
            }
        }
    }

    /** Runs commands as a reader would type them; the first that fails ends them. */
    private static Ended run(Path directory, String commands) {
        try {
            Files.createDirectories(directory);
            Process process = new ProcessBuilder("sh", "-e", "-c", commands)
                .directory(directory.toFile()).redirectErrorStream(true).start();
            process.getOutputStream().close();
            String output = new String(process.getInputStream().readAllBytes(), StandardCharsets.UTF_8);
            return new Ended(process.waitFor(), output);
        } catch (IOException e) {
            throw new UncheckedIOException(e);
        } catch (InterruptedException e) {
            throw new IllegalStateException(e);
        }
    }
}
