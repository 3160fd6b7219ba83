import java.io.IOException;
import java.net.URL;
import java.net.URLClassLoader;
import java.nio.file.Files;
import java.nio.file.Path;
import java.util.ArrayList;
import java.util.List;
import java.util.Set;
import java.util.TreeSet;
import java.util.concurrent.TimeUnit;
import java.util.regex.Matcher;
import java.util.regex.Pattern;
import java.util.stream.Stream;
import javax.tools.ToolProvider;

/** README.md holds as it is written: its calls answer what stands behind them, its commands run, its files are there. */
public final class ReadmeTest {
    private static final Pattern ANSWERED = Pattern.compile("(ward\\..*\\)); +// .*: (-?\\d+)");
    /** It runs this test, and so isn't run by it. */
    private static final String ALL_TESTS = ".ci/run";

    public static void main(String[] args) throws Exception {
        String page = Files.readString(Path.of("README.md"));
        Path room = Files.createTempDirectory("readme");
        try {
            callsAnswerSo(page, room);
            commandsRun(page, room);
        } finally {
            empty(room);
        }
        findingsAreSo(page);
        everyPromiseHasItsTests(page);
        namesAreThere(page);
        Due.end();
    }

    private static void say(String what, boolean is) {
        Due.is(what, is ? 1 : 0, 1);
    }

    private static List<String> blocks(String page, String language) {
        List<String> blocks = new ArrayList<>();
        Matcher m = Pattern.compile("(?ms)^```" + language + "\n(.*?)^```$").matcher(page);
        while (m.find()) {
            blocks.add(m.group(1));
        }
        return blocks;
    }

    /** All blocks of calls are one run on one object. */
    private static void callsAnswerSo(String page, Path room) throws Exception {
        StringBuilder code = new StringBuilder("public final class ReadmeUse {\n");
        code.append("public static java.util.List<Long> answers() {\n");
        code.append("java.util.List<Long> answers = new java.util.ArrayList<>();\n");
        List<String> calls = new ArrayList<>();
        List<Long> due = new ArrayList<>();
        for (String line : String.join("", blocks(page, "java")).split("\n")) {
            Matcher m = ANSWERED.matcher(line);
            if (m.matches()) {
                calls.add(m.group(1));
                due.add(Long.parseLong(m.group(2)));
                code.append("answers.add((long) ").append(m.group(1)).append(");\n");
            } else {
                say("a call at the line's begin has its answer behind it: " + line, !line.startsWith("ward."));
                code.append(line).append('\n');
            }
        }
        code.append("return answers;\n}\n}\n");
        List<?> answers = answers(code.toString(), room);
        for (int i = 0; i < calls.size(); i++) {
            Due.is("README: " + calls.get(i), i < answers.size() ? (Long) answers.get(i) : Long.MIN_VALUE, due.get(i));
        }
        say("README shows calls", calls.size() > 20);
    }

    private static List<?> answers(String code, Path room) throws Exception {
        Path source = Files.writeString(room.resolve("ReadmeUse.java"), code);
        int exit = ToolProvider.getSystemJavaCompiler().run(null, null, null,
            "-cp", System.getProperty("java.class.path"), "-d", room.toString(), source.toString());
        Due.is("README's calls compile", exit, 0);
        if (exit != 0) {
            return List.of();
        }
        try (URLClassLoader loader = new URLClassLoader(new URL[] {room.toUri().toURL()})) {
            return (List<?>) loader.loadClass("ReadmeUse").getMethod("answers").invoke(null);
        }
    }

    /** In a copy of the project, so that nothing is left in it. */
    private static void commandsRun(String page, Path room) throws IOException, InterruptedException {
        Path copy = Files.createDirectory(room.resolve("project"));
        Files.createSymbolicLink(room.resolve("shared"), Path.of("../shared").toRealPath());
        Files.createSymbolicLink(copy.resolve("src"), Path.of("src").toRealPath());
        List<String> blocks = blocks(page, "sh");
        say("README tells how all tests are run", blocks.remove(ALL_TESTS + "\n"));
        say(ALL_TESTS + " can be run", Files.isExecutable(Path.of(ALL_TESTS)));
        say("README shows other commands", blocks.size() == 3);
        for (String block : blocks) {
            Path said = room.resolve("said");
            Process process = new ProcessBuilder("sh", "-e", "-c", block).directory(copy.toFile())
                .redirectErrorStream(true).redirectOutput(said.toFile()).start();
            boolean ended = process.waitFor(5, TimeUnit.MINUTES);
            boolean is = ended && process.exitValue() == 0;
            say("README's commands run:\n" + block + (is ? "" : Files.readString(said)), is);
            process.destroyForcibly();
        }
    }

    private static void empty(Path folder) throws IOException {
        List<Path> all;
        try (Stream<Path> found = Files.walk(folder)) {
            all = new ArrayList<>(found.toList());
        }
        for (int i = all.size() - 1; i >= 0; i--) {
            Files.delete(all.get(i));
        }
    }

    private static void findingsAreSo(String page) {
        String[] names = {"BEYOND", "FULL", "KIND", "NONE", "STATE", "MISSING", "SIZE"};
        int[] numbers = {Due.BEYOND, Due.FULL, Due.KIND, Due.NONE, Due.STATE, Due.MISSING, Due.SIZE};
        for (int i = 0; i < names.length; i++) {
            String row = "| " + names[i] + " | " + numbers[i] + " | " + i + " |\n";
            say("README has the row " + row, page.contains(row));
        }
    }

    private static void everyPromiseHasItsTests(String page) {
        Matcher m = Pattern.compile("(?m)^\\| (\\d+) to (\\d+), [^|]+ \\| `(\\w+)` \\| `(\\w+)` \\|$").matcher(page);
        int next = 1;
        while (m.find()) {
            Due.is("the next promises of README's table", Integer.parseInt(m.group(1)), next);
            next = Integer.parseInt(m.group(2)) + 1;
        }
        Due.is("README's table ends behind promise 45", next, 46);
    }

    private static void namesAreThere(String page) throws IOException {
        Set<String> told = new TreeSet<>();
        Matcher names = Pattern.compile("`(\\w+Test)`").matcher(page);
        while (names.find()) {
            told.add(names.group(1) + ".java");
        }
        Set<String> there = new TreeSet<>();
        try (Stream<Path> files = Files.list(Path.of("src/test/java"))) {
            files.forEach(file -> there.add(file.getFileName().toString()));
        }
        say("README tells of " + told + ", there are " + there, told.equals(there));
        Matcher paths = Pattern.compile("`([\\w.]+(/[\\w.]+)+)`").matcher(page);
        while (paths.find()) {
            say("README names " + paths.group(1), Files.exists(Path.of(paths.group(1))));
        }
        Matcher helpers = Pattern.compile("`(PlainWard|Twins|Settings)`").matcher(page);
        while (helpers.find()) {
            Path helper = Path.of("src/test/help", helpers.group(1) + ".java");
            say("README names " + helper, Files.exists(helper));
        }
    }
}
