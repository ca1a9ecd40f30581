import java.io.File;
import java.io.IOException;
import java.lang.reflect.Method;
import java.lang.reflect.Modifier;
import java.nio.charset.StandardCharsets;
import java.nio.file.Files;
import java.nio.file.Path;
import java.util.ArrayList;
import java.util.Comparator;
import java.util.List;
import java.util.TreeSet;
import java.util.regex.Matcher;
import java.util.regex.Pattern;
import java.util.stream.Stream;

/** What README.md says of the use and of the tests is right as it stands there. */
public final class ReadmeTest {
    private static final Path README = Path.of("README.md");
    private static final Path MAIN = Path.of("src/main/java/DomainDesk.java");
    private static final Path TESTS = Path.of("src/test/java");

    private static int wrong = 0;

    private static void due(String what, Object got, Object want) {
        if (!got.equals(want)) {
            wrong++;
            System.out.println(what + ": " + got + ", due is " + want);
        }
    }

    private static String textOf(Path file) throws IOException {
        return Files.readString(file, StandardCharsets.UTF_8);
    }

    private static List<String> blocks(String readme, String language) {
        List<String> found = new ArrayList<>();
        Matcher matcher = Pattern.compile("(?ms)^```" + language + "\n(.*?)^```$").matcher(readme);
        while (matcher.find()) {
            found.add(matcher.group(1));
        }
        return found;
    }

    private static List<String> matches(String text, String pattern) {
        List<String> found = new ArrayList<>();
        Matcher matcher = Pattern.compile(pattern).matcher(text);
        while (matcher.find()) {
            found.add(matcher.group(1));
        }
        return found;
    }

    /** A new folder stands for the project's, so that nothing is left behind in that one. */
    private static void example(String program, String commands) throws IOException, InterruptedException {
        Path folder = Files.createTempDirectory("readme");
        try {
            Files.createDirectories(folder.resolve(MAIN).getParent());
            Files.copy(MAIN, folder.resolve(MAIN));
            Files.writeString(folder.resolve("Example.java"), program);
            List<String> promised = matches(program, "System\\.out\\.println\\(.*\\); *// ([^:\n]+)");
            due("lines with println and what it prints", promised.size(), program.split("println", -1).length - 1);
            due("the example prints", run(folder, commands), promised);
        } finally {
            remove(folder);
        }
    }

    private static List<String> run(Path folder, String commands) throws IOException, InterruptedException {
        File printed = folder.resolve("printed").toFile();
        int code = new ProcessBuilder("sh", "-e", "-c", commands).directory(folder.toFile())
                .redirectErrorStream(true).redirectOutput(printed).start().waitFor();
        due("exit code of the example", code, 0);
        return Files.readAllLines(printed.toPath());
    }

    private static void remove(Path folder) throws IOException {
        List<Path> inside;
        try (Stream<Path> walk = Files.walk(folder)) {
            inside = new ArrayList<>(walk.toList());
        }
        inside.sort(Comparator.reverseOrder());
        for (Path path : inside) {
            Files.delete(path);
        }
    }

    private static void waysToRunTests(String commands) {
        due("the way to run the tests", commands, ".ci/run\n");
        due(".ci/run can be run", Files.isExecutable(Path.of(".ci/run")), true);
    }

    private static void namesOfTests(String readme) throws IOException {
        TreeSet<String> there = new TreeSet<>();
        try (Stream<Path> files = Files.list(TESTS)) {
            files.forEach(file -> there.add(file.getFileName().toString()));
        }
        due("tests that it names", new TreeSet<>(matches(readme, "`src/test/java/(\\w+\\.java)`")), there);
    }

    private static void namesOfCalls(String readme, String example) {
        TreeSet<String> there = new TreeSet<>();
        for (Method method : DomainDesk.class.getDeclaredMethods()) {
            if (Modifier.isPublic(method.getModifiers())) {
                there.add(method.getName() + " " + method.getParameterCount());
            }
        }
        TreeSet<String> named = new TreeSet<>();
        for (String call : matches(readme, "(?m)^\\| `(\\w+\\([^)]*\\))` \\|")) {
            String parameters = call.substring(call.indexOf('(') + 1, call.length() - 1);
            int count = parameters.isEmpty() ? 0 : parameters.split(",").length;
            named.add(call.substring(0, call.indexOf('(')) + " " + count);
        }
        due("calls that it names", named, there);
        TreeSet<String> names = new TreeSet<>();
        there.forEach(call -> names.add(call.substring(0, call.indexOf(' '))));
        due("calls that the example makes", new TreeSet<>(matches(example, "desk\\.(\\w+)\\(")), names);
    }

    public static void main(String[] args) throws IOException, InterruptedException {
        String readme = textOf(README);
        List<String> programs = blocks(readme, "java");
        List<String> commands = blocks(readme, "sh");
        due("programs", programs.size(), 1);
        due("blocks of commands", commands.size(), 2);
        if (wrong == 0) {
            example(programs.get(0), commands.get(0));
            waysToRunTests(commands.get(1));
            namesOfTests(readme);
            namesOfCalls(readme, programs.get(0));
        }
        System.out.println(wrong == 0 ? "README.md is right" : wrong + " things are not as due");
        if (wrong != 0) {
            System.exit(1);
        }
    }
}
