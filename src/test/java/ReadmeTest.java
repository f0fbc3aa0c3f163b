import java.io.IOException;
import java.lang.reflect.Modifier;
import java.net.URL;
import java.net.URLClassLoader;
import java.nio.file.Files;
import java.nio.file.Path;
import java.nio.file.StandardCopyOption;
import java.util.ArrayList;
import java.util.Arrays;
import java.util.Comparator;
import java.util.List;
import java.util.Set;
import java.util.TreeSet;
import java.util.regex.Matcher;
import java.util.regex.Pattern;
import java.util.stream.Stream;
import javax.tools.ToolProvider;

/** What README.md shows of the class answers as it says, and its commands run what it says. */
public final class ReadmeTest {

    private static final Path CLASS = Path.of("src/main/java/HayFootStraw.java");
    private static final Path TESTS = Path.of("src/test/java");
    private static final Path SHARED = Path.of("../shared");
    /** A call and, behind it, its answer: a number or a constant of the class. */
    private static final Pattern ANSWERED =
            Pattern.compile("(x\\.(\\w+)\\(.*\\));\\s+// (-?\\d+|BAD|NO|FULL|NONE)(:.*)?");

    private static final Due DUE = new Due();

    private ReadmeTest() {}

    public static void main(String[] args) throws Exception {
        List<String> page = Files.readAllLines(Path.of("README.md"));
        List<String> use = block(page, "java");
        List<String> commands = block(page, "sh");
        Path place = Files.createTempDirectory("readme");
        try {
            everyCallIsShown(use);
            answersAreAsShown(use, place.resolve("answers"));
            everyTestIsNamed(page);
            commandsRun(use, commands, place.resolve("good"));
            failuresAreTold(place);
        } finally {
            remove(place);
        }
        DUE.end();
    }

    /** The lines of all blocks of a language, one block behind the other. */
    private static List<String> block(List<String> page, String language) {
        List<String> lines = new ArrayList<>();
        boolean inside = false;
        for (String line : page) {
            if (line.startsWith("```")) {
                inside = line.equals("```" + language);
            } else if (inside && !line.isBlank()) {
                lines.add(line);
            }
        }
        DUE.isTrue("README.md shows lines of " + language, !lines.isEmpty());
        return lines;
    }

    // ---- how to use it

    private static void everyCallIsShown(List<String> use) {
        Set<String> due = new TreeSet<>();
        for (var method : HayFootStraw.class.getDeclaredMethods()) {
            if (Modifier.isPublic(method.getModifiers())) due.add(method.getName());
        }
        Set<String> shown = new TreeSet<>();
        for (String line : use) {
            Matcher answered = ANSWERED.matcher(line);
            boolean isAnswered = answered.matches();
            if (isAnswered) shown.add(answered.group(2));
            DUE.isTrue("an answer is shown, or none is told: " + line,
                    isAnswered || !line.startsWith("x.") && !line.contains("//"));
        }
        DUE.isTrue("calls shown: " + shown, shown.equals(due));
    }

    private static void answersAreAsShown(List<String> use, Path folder) throws Exception {
        List<String> calls = new ArrayList<>();
        List<Integer> told = new ArrayList<>();
        List<String> body = new ArrayList<>();
        for (String line : use) {
            Matcher answered = ANSWERED.matcher(line);
            if (answered.matches()) {
                body.add("got[" + calls.size() + "] = " + answered.group(1) + ";");
                calls.add(line);
                told.add(number(answered.group(3)));
            } else {
                body.add(line);
            }
        }
        int[] got = run(body, calls.size(), folder);
        for (int k = 0; k < got.length; k++) {
            DUE.is(calls.get(k), got[k], told.get(k));
        }
        DUE.isTrue("an object is used for 512 calls at most", calls.size() < 512);
    }

    private static int number(String answer) {
        switch (answer) {
            case "BAD": return HayFootStraw.BAD;
            case "NO": return HayFootStraw.NO;
            case "FULL": return HayFootStraw.FULL;
            case "NONE": return HayFootStraw.NONE;
            default: return Integer.parseInt(answer);
        }
    }

    private static int[] run(List<String> body, int answers, Path folder) throws Exception {
        Files.createDirectories(folder);
        Path source = folder.resolve("Answers.java");
        Files.writeString(source, "public final class Answers {\npublic static int[] all() {\n"
                + "int[] got = new int[" + answers + "];\n" + String.join("\n", body) + "\nreturn got;\n}\n}\n");
        int code = ToolProvider.getSystemJavaCompiler().run(null, null, null, "-cp",
                System.getProperty("java.class.path"), "-d", folder.toString(), source.toString());
        DUE.is("javac of what README.md shows", code, 0);
        if (code != 0) return new int[0];
        try (URLClassLoader loader = new URLClassLoader(new URL[] {folder.toUri().toURL()})) {
            return (int[]) loader.loadClass("Answers").getMethod("all").invoke(null);
        }
    }

    // ---- how to run its tests

    private static void everyTestIsNamed(List<String> page) throws IOException {
        Set<String> named = new TreeSet<>();
        for (String line : page) {
            Matcher test = Pattern.compile("`(\\w+Test)`").matcher(line);
            while (test.find()) named.add(test.group(1));
        }
        DUE.isTrue("tests named: " + named, named.equals(namesOf(TESTS, "Test.java")));
    }

    private static Set<String> namesOf(Path folder, String end) throws IOException {
        Set<String> names = new TreeSet<>();
        try (Stream<Path> files = Files.list(folder)) {
            for (Path file : files.toList()) {
                String name = file.getFileName().toString();
                if (name.endsWith(end)) names.add(name.substring(0, name.length() - ".java".length()));
            }
        }
        return names;
    }

    /** Each command, letter by letter, in a copy of the project. */
    private static void commandsRun(List<String> use, List<String> commands, Path place) throws Exception {
        // Without this test itself, which would begin anew in each copy and never end.
        Set<String> tests = namesOf(TESTS, "Test.java");
        tests.remove("ReadmeTest");
        Path copy = copyProject(place, tests);
        Files.writeString(copy.resolve("Mine.java"), "public final class Mine {\npublic static void main(String[] args) {\n"
                + String.join("\n", use) + "\n}\n}\n");
        int all = tests.size() + namesOf(SHARED.resolve("tests"), ".java").size();
        DUE.isTrue("a command runs all tests", commands.contains(".ci/run"));
        for (String command : commands) {
            String last = command.equals(".ci/run") ? all + " passed, 0 failed" : null;
            command(command, copy, 0, last);
        }
    }

    /** "a line `N passed, N failed`; the exit code is 1 if one failed". */
    private static void failuresAreTold(Path place) throws Exception {
        Set<String> one = Set.of("PromiseTest");
        Path wrong = copyProject(place.resolve("wrong"), one);
        change(wrong.resolve(CLASS), "BAD = -1,", "BAD = -5,");
        command(".ci/run", wrong, 1, "0 passed, 2 failed");
        Path broken = copyProject(place.resolve("broken"), one);
        change(broken.resolve(CLASS), "public final class", "public final clas");
        command(".ci/run", broken, 1, "0 passed, 2 failed");
        Path alone = copyProject(place.resolve("alone"), one);
        Files.delete(alone.resolve(SHARED).normalize());
        command(".ci/run", alone, 1, null);
    }

    private static void change(Path file, String from, String to) throws IOException {
        String text = Files.readString(file);
        DUE.isTrue(from + " stands in the class", text.contains(from));
        Files.writeString(file, text.replace(from, to));
    }

    /** Copies the project, with the tests that are named, beside a link to ../shared. */
    private static Path copyProject(Path place, Set<String> tests) throws IOException {
        Path copy = place.resolve("main");
        copyFile(Path.of(".ci/run"), copy);
        copyFile(CLASS, copy);
        for (String name : namesOf(TESTS, ".java")) {
            if (tests.contains(name) || !name.endsWith("Test")) copyFile(TESTS.resolve(name + ".java"), copy);
        }
        Files.createSymbolicLink(place.resolve("shared"), SHARED.toRealPath());
        return copy;
    }

    private static void copyFile(Path file, Path copy) throws IOException {
        Path target = copy.resolve(file);
        Files.createDirectories(target.getParent());
        Files.copy(file, target, StandardCopyOption.COPY_ATTRIBUTES);
    }

    /** Runs a command in a folder; it must end with the code and, if one is told, the last line. */
    private static void command(String command, Path folder, int code, String last) throws Exception {
        Process process = new ProcessBuilder(List.of("bash", "-c", command))
                .directory(folder.toFile()).redirectErrorStream(true).start();
        process.getOutputStream().close();
        String output = new String(process.getInputStream().readAllBytes());
        int got = process.waitFor();
        List<String> lines = Arrays.asList(output.split("\n"));
        boolean isLast = last == null || lines.get(lines.size() - 1).equals(last);
        DUE.is(command + " in " + folder.getParent().getFileName() + " ended with code", got, code);
        DUE.isTrue(command + " ended with the line " + last, isLast);
        if (got != code || !isLast) System.out.println(output);
    }

    private static void remove(Path place) throws IOException {
        try (Stream<Path> all = Files.walk(place)) {
            for (Path file : all.sorted(Comparator.reverseOrder()).toList()) Files.delete(file);
        }
    }
}
