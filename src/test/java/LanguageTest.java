import java.io.IOException;
import java.lang.reflect.Method;
import java.lang.reflect.Modifier;
import java.nio.file.Files;
import java.nio.file.Path;
import java.util.ArrayList;
import java.util.Arrays;
import java.util.List;
import java.util.Set;
import java.util.TreeSet;
import java.util.regex.Matcher;
import java.util.regex.Pattern;

/** The face of the class, and those rules of LANGUAGE.md that can be seen in its text. */
public final class LanguageTest {

    private static final Path SOURCE = Path.of("src/main/java/HayFootStraw.java");
    private static final String FACE = "write/1 wipe/0 fault/0 lay/0 man/2 word/1 shout/1 eyes/1 look/2 undo/0 "
            + "who/1 follows/1 runs/1 most/1 groups/1 plan/1 turn/2 alike/2 right/3 which/2 safe/1 numbers/1 "
            + "drill/3 keep/0 back/0 count/1";
    private static final String FORBIDDEN = "throw try catch synchronized assert import package protected native "
            + "volatile transient double float Object Thread Random var record interface extends implements";

    private static final Due DUE = new Due();

    private LanguageTest() {}

    public static void main(String[] args) throws IOException {
        face();
        classesInside();
        String code = withoutCommentsAndTexts(Files.readString(SOURCE));
        words(code);
        newOnlyAtFirst(code);
        methodsStayShort(code);
        loopsEnd(code);
        DUE.end();
    }

    private static void face() {
        Class<?> face = HayFootStraw.class;
        DUE.isTrue("public and final", Modifier.isPublic(face.getModifiers()) && Modifier.isFinal(face.getModifiers()));
        DUE.is("constructors", face.getDeclaredConstructors().length, 1);
        DUE.is("the constructor takes", face.getConstructors()[0].getParameterCount(), 0);
        Set<String> due = new TreeSet<>(Arrays.asList(FACE.split(" ")));
        Set<String> there = new TreeSet<>();
        for (Method m : face.getDeclaredMethods()) {
            if (Modifier.isPrivate(m.getModifiers())) continue;
            there.add(m.getName() + "/" + m.getParameterCount());
            DUE.isTrue(m + " answers an int", m.getReturnType() == int.class);
        }
        DUE.isTrue("methods " + there, there.equals(due));
        Set<String> constants = new TreeSet<>();
        for (var f : face.getDeclaredFields()) {
            if (!Modifier.isPrivate(f.getModifiers())) constants.add(f.getName());
            DUE.isTrue(f + " is final if static", !Modifier.isStatic(f.getModifiers()) || Modifier.isFinal(f.getModifiers()));
        }
        DUE.isTrue("constants " + constants, constants.equals(Set.of("BAD", "NO", "FULL", "NONE")));
    }

    private static void classesInside() {
        Set<String> publicNames = new TreeSet<>();
        for (String name : FACE.split(" ")) publicNames.add(name.substring(0, name.indexOf('/')));
        List<Class<?>> all = new ArrayList<>(Arrays.asList(HayFootStraw.class.getDeclaredClasses()));
        DUE.isTrue("twelve classes at most", all.size() < 12);
        for (Class<?> inside : all) {
            DUE.isTrue(inside + " has some twenty fields at most", fieldsBesideConstants(inside) <= 20);
            DUE.isTrue(inside + " is static", Modifier.isStatic(inside.getModifiers()));
            for (Method m : inside.getDeclaredMethods()) {
                DUE.isTrue(m + " bears no public name", !publicNames.contains(m.getName()));
                DUE.isTrue(m + " takes seven at most", m.getParameterCount() <= 7);
            }
        }
        DUE.isTrue("some twenty fields at most", fieldsBesideConstants(HayFootStraw.class) <= 20);
        for (Method m : HayFootStraw.class.getDeclaredMethods()) {
            boolean isPrivate = Modifier.isPrivate(m.getModifiers());
            DUE.isTrue(m + " bears no public name", !isPrivate || !publicNames.contains(m.getName()));
        }
    }

    private static long fieldsBesideConstants(Class<?> owner) {
        return Arrays.stream(owner.getDeclaredFields()).filter(f -> !Modifier.isStatic(f.getModifiers())).count();
    }

    private static String withoutCommentsAndTexts(String source) {
        DUE.isTrue("ASCII alone", source.chars().allMatch(c -> c < 128));
        return source.replaceAll("(?s)/\\*.*?\\*/", " ")
                .replaceAll("//[^\n]*", " ")
                .replaceAll("\"[^\"\n]*\"", "TEXT");
    }

    private static void words(String code) {
        for (String word : FORBIDDEN.split(" ")) {
            DUE.isTrue("no " + word, !Pattern.compile("\\b" + word + "\\b").matcher(code).find());
        }
        DUE.isTrue("no lambda or method reference", !code.contains("->") && !code.contains("::"));
        Matcher library = Pattern.compile("\\b(Math|Integer|Long|System|Arrays)\\.(\\w+)").matcher(code);
        Set<String> allowed = Set.of("Math.max", "Integer.bitCount", "System.arraycopy");
        while (library.find()) DUE.isTrue(library.group(), allowed.contains(library.group()));
    }

    /** What a run makes is counted: rows are made with their object, and by no call. */
    private static void newOnlyAtFirst(String code) {
        Matcher m = Pattern.compile("[^\n]*\\bnew\\b[^\n]*").matcher(code);
        while (m.find()) {
            String line = m.group().trim();
            boolean isField = line.startsWith("private ") || line.startsWith("final ");
            boolean isPile = line.startsWith("places");
            DUE.isTrue("made at first: " + line, isField || isPile);
        }
    }

    /** A method's head and its last brace stand equally far in, and its lines farther. */
    private static void methodsStayShort(String code) {
        Matcher m = Pattern.compile("(?m)^( {4}| {8})(?! )[^\n;=]*\\([^\n;]*\\) \\{\\n(?s:(.*?))^\\1\\}").matcher(code);
        int methods = 0;
        while (m.find()) {
            methods++;
            String head = m.group().lines().findFirst().orElse("").trim();
            DUE.isTrue(head + " has sixty lines at most", m.group().lines().count() <= 60);
        }
        DUE.isTrue("methods are found: " + methods, methods > 60);
    }

    /** Each loop has a counter against a bound on its own line. */
    private static void loopsEnd(String code) {
        Matcher m = Pattern.compile("\\b(for|while|do)\\b[^\n]*").matcher(code);
        int loops = 0;
        while (m.find()) {
            loops++;
            DUE.isTrue("a bound: " + m.group(), m.group().matches("(for|while) \\(.*\\w (<|<=|>|>=) \\w.*"));
        }
        DUE.isTrue("loops are found: " + loops, loops > 20);
    }
}
