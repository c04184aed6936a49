import java.io.IOException;
import java.lang.reflect.Method;
import java.lang.reflect.Modifier;
import java.net.URL;
import java.net.URLClassLoader;
import java.nio.file.Files;
import java.nio.file.Path;
import java.util.ArrayList;
import java.util.Comparator;
import java.util.List;
import java.util.Set;
import java.util.TreeSet;
import java.util.regex.Matcher;
import java.util.regex.Pattern;
import java.util.stream.Stream;
import javax.tools.ToolProvider;

/** The rows of README.md, as they are written there: its calls with their answers, how a test is run, which there are. */
public final class ReadmeTest {
    private static final Path TESTS = Path.of("src/test/java");
    /** A call, and behind it // with the answer that is due. */
    private static final Pattern ANSWERED = Pattern.compile("(x\\.(\\w+)\\(.*\\)); *// (-?\\d+): .*");
    private static final Due due = new Due();

    public static void main(String[] args) throws Exception {
        String readme = Files.readString(Path.of("README.md"));
        Path room = Files.createTempDirectory("readme");
        try {
            useHolds(block(readme, "java", 0), room);
            oneTestAlone(block(readme, "sh", 1), room);
            theTableIsWhole(readme);
            due.is("the script runs", Files.isExecutable(Path.of(block(readme, "sh", 0).trim())) ? 1 : 0, 1);
        } finally {
            removeAll(room);
        }
        due.end();
    }

    /** The text of the n-th block of a language, from 0 on. */
    private static String block(String readme, String language, int n) {
        Matcher blocks = Pattern.compile("(?s)```" + language + "\n(.*?)```").matcher(readme);
        for (int i = 0; i <= n; i++) {
            if (!blocks.find()) {
                throw new IllegalStateException("README.md has no " + language + " block " + n);
            }
        }
        return blocks.group(1);
    }

    private static void useHolds(String block, Path room) throws Exception {
        List<String> calls = new ArrayList<>();
        List<Long> wanted = new ArrayList<>();
        Set<String> told = new TreeSet<>();
        StringBuilder body = new StringBuilder();
        for (String row : block.split("\n")) {
            Matcher answered = ANSWERED.matcher(row);
            if (answered.matches()) {
                calls.add("README's " + answered.group(1));
                wanted.add(Long.parseLong(answered.group(3)));
                told.add(answered.group(2));
                body.append("answers.add((long) ").append(answered.group(1)).append(");\n");
            } else {
                due.holds("README tells an answer: " + row, !row.startsWith("x."));
                body.append(row).append('\n');
            }
        }
        List<?> answers = answersOf(body.toString(), room);
        due.is("README's answers", answers.size(), calls.size());
        for (int i = 0; i < Math.min(answers.size(), calls.size()); i++) {
            due.is(calls.get(i), (Long) answers.get(i), wanted.get(i));
        }
        due.holds("README shows each call of the face, it shows " + told, told.equals(theFace()));
    }

    private static Set<String> theFace() {
        Set<String> names = new TreeSet<>();
        for (Method method : SaidInWinter.class.getDeclaredMethods()) {
            if (Modifier.isPublic(method.getModifiers())) {
                names.add(method.getName());
            }
        }
        return names;
    }

    private static List<?> answersOf(String body, Path room) throws Exception {
        Path source = room.resolve("ReadmeRows.java");
        Files.writeString(source, "import java.util.*;\npublic final class ReadmeRows {\n"
            + "public static List<Long> answers() {\nList<Long> answers = new ArrayList<>();\n" + body
            + "return answers;\n}\n}\n");
        int compiled = ToolProvider.getSystemJavaCompiler().run(null, null, null, "-d", room.toString(),
            "-cp", System.getProperty("java.class.path"), source.toString());
        due.is("README's rows compile", compiled, 0);
        if (compiled != 0) {
            return List.of();
        }
        URL[] where = {room.toUri().toURL()};
        try (URLClassLoader loader = new URLClassLoader(where, ReadmeTest.class.getClassLoader())) {
            return (List<?>) loader.loadClass("ReadmeRows").getMethod("answers").invoke(null);
        }
    }

    /** In a copy of the project, since the row makes a folder where it is run. */
    private static void oneTestAlone(String row, Path room) throws Exception {
        Path copy = room.resolve("project");
        copyAll(Path.of("src"), copy.resolve("src"));
        Process process = new ProcessBuilder("bash", "-c", row).directory(copy.toFile())
            .redirectErrorStream(true).start();
        process.getOutputStream().close();
        String said = new String(process.getInputStream().readAllBytes());
        due.is("README's row for one test alone (" + said.trim() + ")", process.waitFor(), 0);
    }

    private static void theTableIsWhole(String readme) throws IOException {
        Set<String> told = new TreeSet<>();
        Matcher row = Pattern.compile("(?m)^\\| ([A-Z]\\w+Test(, \\w+Test)*) \\|").matcher(readme);
        while (row.find()) {
            told.addAll(List.of(row.group(1).split(", ")));
        }
        Set<String> found = new TreeSet<>();
        try (Stream<Path> files = Files.list(TESTS)) {
            files.map(file -> file.getFileName().toString()).filter(name -> name.endsWith("Test.java"))
                .forEach(name -> found.add(name.substring(0, name.length() - ".java".length())));
        }
        due.holds("README's tests are " + told + ", there are " + found, told.equals(found));
    }

    private static void copyAll(Path from, Path to) throws IOException {
        try (Stream<Path> files = Files.walk(from)) {
            for (Path file : (Iterable<Path>) files::iterator) {
                Path copy = to.resolve(from.relativize(file));
                if (Files.isDirectory(file)) {
                    Files.createDirectories(copy);
                } else {
                    Files.copy(file, copy);
                }
            }
        }
    }

    private static void removeAll(Path folder) throws IOException {
        try (Stream<Path> files = Files.walk(folder)) {
            for (Path file : (Iterable<Path>) files.sorted(Comparator.reverseOrder())::iterator) {
                Files.delete(file);
            }
        }
    }
}
