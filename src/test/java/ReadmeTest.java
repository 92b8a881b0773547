import java.io.File;
import java.io.IOException;
import java.lang.reflect.Method;
import java.lang.reflect.Modifier;
import java.net.URL;
import java.net.URLClassLoader;
import java.nio.file.Files;
import java.nio.file.Path;
import java.util.ArrayList;
import java.util.Comparator;
import java.util.List;
import java.util.Set;
import java.util.TreeSet;
import java.util.concurrent.TimeUnit;
import java.util.regex.Matcher;
import java.util.regex.Pattern;
import java.util.stream.Stream;
import javax.tools.JavaCompiler;
import javax.tools.ToolProvider;

/** What README.md shows is so: its calls answer as it says, and its commands work. */
public final class ReadmeTest {
    private static final Check CHECK = new Check();
    private static final Path README = Path.of("README.md");
    private static final Path CI = Path.of(".ci/run");
    private static final String SHOWN = "ShownCalls";
    private static final Pattern BLOCK = Pattern.compile("(?ms)^```(\\w+)\n(.*?)^```$");
    private static final Pattern ANSWERED = Pattern.compile("(x\\.(\\w+)\\(.*\\));\\s+// (-?\\d+): .+");
    private static final Pattern REFUSAL = Pattern.compile("(?m)^\\| +(-\\d+) \\| (?:`(\\w+)`)? +\\|");
    private static final int MOST_SECONDS = 300;

    public static void main(String[] args) throws Exception {
        String page = Files.readString(README);
        Path room = Files.createTempDirectory("readme");
        try {
            calls(String.join("", blocks(page, "java")), room);
            refusals(page);
            commands(blocks(page, "sh"), room);
        } finally {
            clear(room);
        }
        CHECK.close();
    }

    private static List<String> blocks(String page, String language) {
        List<String> blocks = new ArrayList<>();
        Matcher matcher = BLOCK.matcher(page);
        while (matcher.find()) {
            if (matcher.group(1).equals(language)) {
                blocks.add(matcher.group(2));
            }
        }
        CHECK.isSo("README.md shows " + language, !blocks.isEmpty());
        return blocks;
    }

    // ---- calls

    /** The page's lines become a program that tells each call, what it answers and what the page says. */
    private static void calls(String shown, Path room) throws Exception {
        StringBuilder program = new StringBuilder("public final class " + SHOWN + " {\n"
            + "public static void run(java.util.List<String> calls, java.util.List<Long> answers) {\n");
        Set<String> names = new TreeSet<>();
        for (String line : shown.split("\n")) {
            Matcher matcher = ANSWERED.matcher(line);
            if (matcher.matches()) {
                names.add(matcher.group(2));
                program.append("calls.add(\"").append(matcher.group(1)).append("\");\n")
                    .append("answers.add((long) ").append(matcher.group(1)).append(");\n")
                    .append("answers.add(").append(matcher.group(3)).append("L);\n");
            } else {
                CHECK.isSo("a call with its answer behind it, but: " + line, !line.startsWith("x."));
                program.append(line).append('\n');
            }
        }
        program.append("}\n}\n");
        List<String> calls = new ArrayList<>();
        List<Long> answers = new ArrayList<>();
        run(program.toString(), room, calls, answers);
        for (int i = 0; i < calls.size(); i++) {
            CHECK.due("README.md: " + calls.get(i), answers.get(2 * i), answers.get(2 * i + 1));
        }
        CHECK.isSo("calls that the page shows", calls.size() >= names.size() && calls.size() <= Counted.MOST_CALLS);
        names.add("feed");
        for (Method method : NumbersInherited.class.getDeclaredMethods()) {
            if (Modifier.isPublic(method.getModifiers())) {
                CHECK.isSo("README.md shows " + method.getName(), names.contains(method.getName())
                    && shown.contains("x." + method.getName() + "("));
            }
        }
    }

    private static void run(String program, Path room, List<String> calls, List<Long> answers) throws Exception {
        Path file = room.resolve(SHOWN + ".java");
        Files.writeString(file, program);
        JavaCompiler compiler = ToolProvider.getSystemJavaCompiler();
        int code = compiler.run(null, null, null, "-cp", System.getProperty("java.class.path"), "-d", room.toString(),
            file.toString());
        CHECK.due("README.md: its calls are Java", code, 0);
        if (code == 0) {
            try (URLClassLoader loader = new URLClassLoader(new URL[] {room.toUri().toURL()})) {
                loader.loadClass(SHOWN).getMethod("run", List.class, List.class).invoke(null, calls, answers);
            }
        }
    }

    // ---- refusals

    private static void refusals(String page) throws ReflectiveOperationException {
        Set<Integer> told = new TreeSet<>();
        Matcher matcher = REFUSAL.matcher(page);
        while (matcher.find()) {
            int value = Integer.parseInt(matcher.group(1));
            told.add(value);
            if (matcher.group(2) != null) {
                CHECK.due("README.md: " + matcher.group(2), value,
                    NumbersInherited.class.getField(matcher.group(2)).getInt(null));
            }
        }
        CHECK.isSo("README.md tells all refusals: " + told,
            told.equals(Set.of(-2, -3, -4, -11, -12, -13, -14)));
    }

    // ---- commands

    private static void commands(List<String> blocks, Path room) throws IOException, InterruptedException {
        boolean isAll = false;
        for (String block : blocks) {
            if (block.strip().equals("bash " + CI)) {
                // It is what runs this test, and would run it again.
                CHECK.isSo(CI + " can be run", Files.isExecutable(CI) && exit("bash -n " + CI, room) == 0);
                isAll = true;
            } else {
                CHECK.due("README.md: " + block, exit(block, room), 0);
            }
        }
        CHECK.isSo("README.md tells how to run all tests", isAll);
    }

    private static int exit(String script, Path room) throws IOException, InterruptedException {
        ProcessBuilder builder = new ProcessBuilder("bash", "-e", "-c", script);
        builder.environment().put("TMPDIR", room.toString());
        builder.redirectErrorStream(true).redirectOutput(new File(room.toFile(), "told"));
        Process process = builder.start();
        if (!process.waitFor(MOST_SECONDS, TimeUnit.SECONDS)) {
            process.destroyForcibly();
            return -1;
        }
        return process.exitValue();
    }

    private static void clear(Path room) throws IOException {
        try (Stream<Path> paths = Files.walk(room)) {
            for (Path path : paths.sorted(Comparator.reverseOrder()).toList()) {
                Files.delete(path);
            }
        }
    }
}
