import java.io.File;
import java.io.IOException;
import java.lang.reflect.Method;
import java.lang.reflect.Modifier;
import java.nio.charset.StandardCharsets;
import java.nio.file.Files;
import java.nio.file.Path;
import java.util.ArrayList;
import java.util.Comparator;
import java.util.List;
import java.util.regex.Matcher;
import java.util.regex.Pattern;
import java.util.stream.Stream;

/** README.md as it stands: its program, its commands and what they print, in a copy of the sources. */
public final class ReadmeTest {
    private static final Check c = new Check();
    private static final Path EXAMPLE = Path.of("src/example/java/Nights.java");

    public static void main(String[] args) throws IOException, InterruptedException {
        String readme = read(Path.of("README.md"));
        List<String> programs = blocks(readme, "java");
        List<String> prints = blocks(readme, "text");
        List<String> commands = blocks(readme, "sh");
        c.is("one program", programs.size(), 1);
        c.is("one print", prints.size(), 1);
        c.is("three times commands", commands.size(), 3);
        if (c.wrong == 0) {
            c.is("the program is the one in src/example", programs.get(0).equals(read(EXAMPLE)), true);
            same(run(commands.get(0)), prints.get(0));
            c.is(".ci/run is there", commands.get(1).equals(".ci/run\n") && Files.isExecutable(Path.of(".ci/run")), true);
            c.is("a test alone ends well", run(commands.get(2)) != null, true);
        }
        face(readme);
        tests(readme);
        c.end("ReadmeTest");
    }

    private static String read(Path path) throws IOException {
        return Files.readString(path, StandardCharsets.UTF_8);
    }

    private static List<String> blocks(String readme, String language) {
        List<String> all = new ArrayList<>();
        Matcher m = Pattern.compile("(?ms)^```" + language + "\n(.*?)^```$").matcher(readme);
        while (m.find()) {
            all.add(m.group(1));
        }
        return all;
    }

    private static void same(String got, String due) {
        c.is("what is printed is what stands there", due.equals(got), true);
        if (!due.equals(got)) {
            System.out.println(got);
        }
    }

    /** Each call of the face is named, by its own name alone. */
    private static void face(String readme) {
        for (Method method : OneStepMore.class.getDeclaredMethods()) {
            if (Modifier.isPublic(method.getModifiers())) {
                c.is(method.getName() + " is named", readme.contains("`" + method.getName() + "`"), true);
            }
        }
    }

    private static void tests(String readme) throws IOException {
        try (Stream<Path> files = Files.list(Path.of("src/test/java"))) {
            for (Path file : (Iterable<Path>) files::iterator) {
                String name = file.getFileName().toString().replace(".java", "");
                if (name.endsWith("Test") || name.endsWith("Runs")) {
                    c.is(name + " is named", readme.contains("`" + name + "`"), true);
                }
            }
        }
    }

    /** What commands print in a copy of the sources; null, if they end badly. */
    private static String run(String commands) throws IOException, InterruptedException {
        Path copy = Files.createTempDirectory("readme");
        Path printed = copy.resolve("printed");
        try {
            copy(copy);
            ProcessBuilder shell = new ProcessBuilder("sh", "-e", "-c", commands);
            shell.directory(copy.toFile()).redirectErrorStream(true).redirectOutput(printed.toFile());
            int end = shell.start().waitFor();
            String all = read(printed);
            if (end != 0) {
                System.out.println(all);
            }
            return end == 0 ? all : null;
        } finally {
            away(copy);
        }
    }

    private static void copy(Path to) throws IOException {
        try (Stream<Path> files = Files.walk(Path.of("src"))) {
            for (Path file : (Iterable<Path>) files::iterator) {
                Files.copy(file, to.resolve(file.toString()));
            }
        }
    }

    private static void away(Path copy) throws IOException {
        try (Stream<Path> files = Files.walk(copy)) {
            files.sorted(Comparator.reverseOrder()).map(Path::toFile).forEach(File::delete);
        }
    }
}
