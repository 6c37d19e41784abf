import java.io.IOException;
import java.lang.reflect.Method;
import java.lang.reflect.Modifier;
import java.net.URL;
import java.net.URLClassLoader;
import java.nio.file.Files;
import java.nio.file.Path;
import java.util.ArrayList;
import java.util.Comparator;
import java.util.List;
import java.util.regex.Matcher;
import java.util.regex.Pattern;
import java.util.stream.Stream;

/** The Java in README.md is one program: it is compiled, and each call answers what stands behind it. */
public final class ReadmeTest {
    private static final Pattern CALL = Pattern.compile("x\\.(\\w+\\(.*?\\));\\s+// (-?\\d+|[A-Z]+)\\b.*");
    private static final Due due = new Due();
    private static final List<String> calls = new ArrayList<>();
    private static final List<Long> wanted = new ArrayList<>();

    public static void main(String[] args) throws IOException, InterruptedException, ReflectiveOperationException {
        String readme = Files.readString(Path.of("README.md"));
        namesEachCall(readme);
        answersAsSaid(programOf(readme));
        due.end("ReadmeTest");
    }

    private static void namesEachCall(String readme) {
        for (Method m : HutFlock.class.getDeclaredMethods()) {
            if (Modifier.isPublic(m.getModifiers())) {
                String form = "`" + m.getName() + "\\(" + "\\w+, ".repeat(Math.max(m.getParameterCount() - 1, 0))
                        + (m.getParameterCount() == 0 ? "" : "\\w+") + "\\)`";
                due.is("README names " + m.getName(), Pattern.compile(form).matcher(readme).find() ? 1 : 0, 1);
            }
        }
        due.is("README names .ci/run", readme.contains(".ci/run") ? 1 : 0, 1);
    }

    /** A call with an answer behind it is put where the answer can be looked at. */
    private static String programOf(String readme) throws ReflectiveOperationException {
        StringBuilder program = new StringBuilder("public final class ReadmeProgram {\n"
                + "    public static void run(java.util.List<Long> got) {\n");
        Matcher blocks = Pattern.compile("(?s)```java\n(.*?)```").matcher(readme);
        while (blocks.find()) {
            for (String line : blocks.group(1).split("\n")) {
                Matcher call = CALL.matcher(line);
                if (call.matches()) {
                    calls.add(call.group(1));
                    wanted.add(answerOf(call.group(2)));
                    program.append("got.add((long) x.").append(call.group(1)).append(");\n");
                } else {
                    program.append(line).append('\n');
                }
            }
        }
        return program.append("    }\n}\n").toString();
    }

    private static long answerOf(String said) throws ReflectiveOperationException {
        return Character.isLetter(said.charAt(0))
                ? HutFlock.class.getField(said).getInt(null) : Long.parseLong(said);
    }

    private static void answersAsSaid(String program)
            throws IOException, InterruptedException, ReflectiveOperationException {
        Path out = Files.createTempDirectory("readme");
        try {
            List<Long> got = new ArrayList<>();
            if (compiles(out, program)) {
                run(out, got);
            }
            due.is("calls with answers in README", got.size(), calls.size());
            due.is("enough of them", calls.size() >= 30 ? 1 : 0, 1);
            for (int c = 0; c < Math.min(got.size(), calls.size()); c++) {
                due.is("README: " + calls.get(c), got.get(c), wanted.get(c));
            }
        } finally {
            remove(out);
        }
    }

    private static boolean compiles(Path out, String program) throws IOException, InterruptedException {
        Path file = Files.writeString(out.resolve("ReadmeProgram.java"), program);
        int answer = new ProcessBuilder("javac", "-d", out.toString(), "-cp", System.getProperty("java.class.path"),
                file.toString()).inheritIO().start().waitFor();
        due.is("compiling the Java in README", answer, 0);
        return answer == 0;
    }

    private static void run(Path out, List<Long> got) throws IOException, ReflectiveOperationException {
        URL[] from = {out.toUri().toURL()};
        try (URLClassLoader loader = new URLClassLoader(from, ReadmeTest.class.getClassLoader())) {
            loader.loadClass("ReadmeProgram").getMethod("run", List.class).invoke(null, got);
        }
    }

    private static void remove(Path directory) throws IOException {
        try (Stream<Path> all = Files.walk(directory)) {
            for (Path path : all.sorted(Comparator.reverseOrder()).toList()) {
                Files.delete(path);
            }
        }
    }
}
