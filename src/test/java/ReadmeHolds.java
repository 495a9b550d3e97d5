import java.io.IOException;
import java.net.URL;
import java.net.URLClassLoader;
import java.nio.file.Files;
import java.nio.file.Path;
import java.util.ArrayList;
import java.util.List;
import java.util.TreeSet;
import java.util.regex.Matcher;
import java.util.regex.Pattern;
import java.util.stream.Stream;
import javax.tools.ToolProvider;

/** What README.md says of the class and of its tests is so: its calls are compiled and made; run from the root. */
public final class ReadmeHolds {
    private static final Path PAGE = Path.of("README.md");
    private static final Path TESTS = Path.of("src/test/java");
    private static final Path COMMAND = Path.of(".ci/run");
    private static final Pattern CALL = Pattern.compile("^ +(ring\\.(\\w+)\\([^;]*\\)); +// (-?\\d+)\\b(.*)$");

    private static int wrong = 0;

    public static void main(String[] args) throws Exception {
        String page = Files.readString(PAGE);
        theCalls(page.split("```java\n")[1].split("```")[0]);
        theRefusals(page);
        theTests(page);
        theCommand(page);
        System.out.println(wrong == 0 ? "the page says what is so" : wrong + " sayings are not so");
        if (wrong != 0) {
            System.exit(1);
        }
    }

    private static void same(String what, Object is, Object due) {
        if (!is.equals(due)) {
            wrong++;
            System.out.println(what + ": is " + is + ", the page says " + due);
        }
    }

    /** The page's calls as a program that keeps what they answer. */
    private static String program(String block) {
        StringBuilder code = new StringBuilder("public final class PageCalls {\n");
        code.append("public static final java.util.List<Long> ANSWERS = new java.util.ArrayList<>();\n");
        code.append("public static void run() {\n");
        for (String line : block.split("\n")) {
            Matcher call = CALL.matcher(line);
            code.append(call.matches() ? "ANSWERS.add((long) " + call.group(1) + ");" : line).append('\n');
        }
        return code.append("}\n}\n").toString();
    }

    private static void theCalls(String block) throws Exception {
        Path made = Files.createDirectories(Path.of("build/page"));
        Path source = made.resolve("PageCalls.java");
        Files.writeString(source, program(block));
        int compiled = ToolProvider.getSystemJavaCompiler().run(null, null, null, "-cp",
            System.getProperty("java.class.path"), "-d", made.toString(), source.toString());
        same("the calls' compiling", compiled, 0);
        List<?> answers = List.of();
        try (URLClassLoader loader = new URLClassLoader(new URL[] {made.toUri().toURL()})) {
            Class<?> program = loader.loadClass("PageCalls");
            program.getMethod("run").invoke(null);
            answers = (List<?>) program.getField("ANSWERS").get(null);
        }
        theAnswers(block, answers);
    }

    private static void theAnswers(String block, List<?> answers) {
        int told = 0;
        for (String line : block.split("\n")) {
            Matcher call = CALL.matcher(line);
            if (call.matches()) {
                Object is = told < answers.size() ? answers.get(told) : "not made";
                same(call.group(1), is, Long.valueOf(call.group(3)));
                told++;
            } else if (line.contains("//") && !line.contains("ring.write(letter);")) {
                same("a call that is read: " + line, false, true);
            }
        }
        same("calls that were made", answers.size(), told);
        same("20 calls or more", told >= 20, true);
    }

    private static void theRefusals(String page) {
        Matcher told = Pattern.compile("`([A-Z]+)` \\((-\\d)\\)").matcher(page);
        List<String> is = new ArrayList<>();
        while (told.find()) {
            is.add(told.group(1) + " " + told.group(2));
        }
        same("the refusals", List.of("UNKNOWN " + OneRing.UNKNOWN, "OUTSIDE " + OneRing.OUTSIDE, "STATE " + OneRing.STATE,
            "FULL " + OneRing.FULL, "NONE " + OneRing.NONE), is);
    }

    /** Each test of the project is told by its name, and each one that is told is there. */
    private static void theTests(String page) throws IOException {
        TreeSet<String> there = new TreeSet<>();
        try (Stream<Path> files = Files.list(TESTS)) {
            files.forEach(file -> there.add(file.getFileName().toString().replace(".java", "")));
        }
        TreeSet<String> told = new TreeSet<>();
        Matcher names = Pattern.compile("`([A-Z][a-z]+[A-Z][A-Za-z]*)`").matcher(page.split("## How to run its tests")[1]);
        while (names.find()) {
            told.add(names.group(1));
        }
        same("the tests", there, told);
    }

    private static void theCommand(String page) throws IOException {
        same("the command for the tests", page.split("```sh\n")[1].split("\n")[0], COMMAND.toString());
        same("the command can be run", Files.isExecutable(COMMAND), true);
        String command = Files.readString(COMMAND);
        same("the command runs all of both places", command.contains("src/test/java/*.java ../shared/tests/*.java"), true);
        for (String path : new String[] {"src/main/java/OneRing.java", "../shared/DOC.md", "../shared/LANGUAGE.md"}) {
            same("told: " + path, page.contains("`" + path + "`") && Files.exists(Path.of(path)), true);
        }
    }
}
