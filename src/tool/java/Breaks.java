import java.io.File;
import java.io.IOException;
import java.io.OutputStream;
import java.nio.file.Files;
import java.nio.file.Path;
import java.util.ArrayList;
import java.util.LinkedHashSet;
import java.util.List;
import java.util.Set;
import java.util.concurrent.ExecutorService;
import java.util.concurrent.Executors;
import java.util.concurrent.Future;
import java.util.concurrent.TimeUnit;
import java.util.regex.Matcher;
import java.util.regex.Pattern;
import java.util.stream.Stream;
import javax.tools.JavaCompiler;
import javax.tools.ToolProvider;

/**
 * How far the tests go: breaks HutFlock.java at one place after the other, runs the tests on each broken class, and
 * prints the breaks that no test tells from the class. Run it from the project's directory, with names of tests if not
 * all of them should be run: java src/tool/java/Breaks.java [test ..]
 */
public final class Breaks {
    private static final Path MAIN = Path.of("src/main/java/HutFlock.java");
    private static final List<String> TESTS = List.of("PromisesTest", "RefusalsTest", "FrontsEdgesTest",
            "WintersEdgesTest", "AheadEdgesTest", "ToldEdgesTest", "RowsEdgesTest", "ModelTest");
    /** What is found, and what is put in its place. */
    private static final String[][] SIGNS = {
        {" < ", " <= "}, {" <= ", " < "}, {" > ", " >= "}, {" >= ", " > "}, {" == ", " != "}, {" != ", " == "},
        {" && ", " || "}, {" || ", " && "}, {" + ", " - "}, {" - ", " + "}, {" * ", " / "}, {" / ", " * "},
        {" % ", " / "}, {" += ", " -= "}, {" -= ", " += "}, {"++", "--"}, {"--", "++"}, {"true", "false"},
        {"false", "true"}, {"(!", "("}, {" !", " "}, {"if (", "if (false && "}, {"if (", "if (true || "},
        {"return BAD;", "return STATE;"}, {"return STATE;", "return BAD;"}, {"return SPENT;", "return STATE;"},
        {"return FULL;", "return STATE;"}, {"NONE", "BAD"}, {"find(SIZE)", "find(NOUGHT)"},
        {"find(NOTHING)", "find(BEYOND)"}, {"find(BEYOND)", "find(NOTHING)"}, {"find(UNLIKE)", "find(SIZE)"},
        {"find(NOUGHT)", "find(SIZE)"}, {"Math.min", "Math.max"}, {"Math.max", "Math.min"}, {"Math.abs", ""},
        {"strength", "brown"}, {"brick[", "home["}, {"now.", "first."}, {"aside.", "now."}, {"rows", "texts"}};
    private static final long PATIENCE_SECONDS = 60;

    private record Broken(int line, String was, String is, String source) {
    }

    private final Path room;
    private final List<String> tests;

    private Breaks(Path room, List<String> tests) {
        this.room = room;
        this.tests = tests;
    }

    public static void main(String[] args) throws Exception {
        Breaks breaks = new Breaks(Files.createTempDirectory("breaks"), args.length == 0 ? TESTS : List.of(args));
        breaks.compileTests();
        breaks.run(allBreaks(Files.readString(MAIN)));
        remove(breaks.room.resolve("tests"));
        Files.delete(breaks.room);
    }

    private static List<Broken> allBreaks(String source) {
        List<Broken> all = new ArrayList<>();
        List<String> lines = source.lines().toList();
        for (int l = 0; l < lines.size(); l++) {
            String line = lines.get(l);
            if (line.isBlank() || line.matches("\\s*(/\\*|\\*|//).*") || line.contains("public static final int BAD")) {
                continue;
            }
            for (String is : brokenLines(line)) {
                List<String> with = new ArrayList<>(lines);
                with.set(l, is);
                all.add(new Broken(l + 1, line.strip(), is.strip(), String.join("\n", with)));
            }
        }
        return all;
    }

    private static Set<String> brokenLines(String line) {
        Set<String> all = new LinkedHashSet<>();
        for (String[] sign : SIGNS) {
            for (int at = line.indexOf(sign[0]); at >= 0; at = line.indexOf(sign[0], at + 1)) {
                all.add(line.substring(0, at) + sign[1] + line.substring(at + sign[0].length()));
            }
        }
        Matcher number = Pattern.compile("(?<![\\w'])\\d+").matcher(line);
        while (number.find()) {
            long n = Long.parseLong(number.group());
            all.add(line.substring(0, number.start()) + (n + 1) + line.substring(number.end()));
            all.add(line.substring(0, number.start()) + (n - 1) + line.substring(number.end()));
        }
        if (line.matches("\\s+[\\w.\\[\\]]+(\\(.*\\)|\\+\\+|--| .?= .*);") && !line.contains("return")) {
            all.add(line.replaceAll("\\S.*", ";"));
        }
        all.remove(line);
        return all;
    }

    private void compileTests() throws IOException {
        List<String> files = new ArrayList<>(List.of(MAIN.toString()));
        try (Stream<Path> found = Files.list(Path.of("src/test/java"))) {
            found.forEach(file -> files.add(file.toString()));
        }
        if (!compile(Files.createDirectory(room.resolve("tests")), files)) {
            throw new IllegalStateException("the tests do not compile");
        }
    }

    private static boolean compile(Path out, List<String> files) {
        JavaCompiler compiler = ToolProvider.getSystemJavaCompiler();
        List<String> args = new ArrayList<>(List.of("-nowarn", "-d", out.toString()));
        args.addAll(files);
        return compiler.run(null, OutputStream.nullOutputStream(), OutputStream.nullOutputStream(),
                args.toArray(new String[0])) == 0;
    }

    private void run(List<Broken> all) throws Exception {
        ExecutorService workers = Executors.newFixedThreadPool(Runtime.getRuntime().availableProcessors());
        List<Future<String>> fates = new ArrayList<>();
        for (int b = 0; b < all.size(); b++) {
            int number = b;
            fates.add(workers.submit(() -> fateOf(number, all.get(number))));
        }
        int survive = 0;
        int compiled = 0;
        for (int b = 0; b < all.size(); b++) {
            String fate = fates.get(b).get();
            compiled += fate.equals("no Java") ? 0 : 1;
            if (fate.equals("survives")) {
                survive++;
                System.out.println(all.get(b).line() + ": " + all.get(b).was() + "\n    " + all.get(b).is());
            }
        }
        workers.shutdown();
        System.out.println(compiled + " breaks, " + survive + " survive");
    }

    private String fateOf(int number, Broken broken) throws IOException, InterruptedException {
        Path out = Files.createDirectory(room.resolve("b" + number));
        Path file = Files.writeString(out.resolve("HutFlock.java"), broken.source());
        String fate = "no Java";
        if (compile(out, List.of(file.toString()))) {
            fate = "survives";
            for (int t = 0; t < tests.size() && fate.equals("survives"); t++) {
                fate = passes(out, tests.get(t)) ? fate : tests.get(t);
            }
        }
        remove(out);
        return fate;
    }

    private static void remove(Path directory) throws IOException {
        try (Stream<Path> files = Files.list(directory)) {
            for (Path file : files.toList()) {
                Files.delete(file);
            }
        }
        Files.delete(directory);
    }

    private boolean passes(Path out, String test) throws IOException, InterruptedException {
        Process process = new ProcessBuilder("java", "-XX:TieredStopAtLevel=1", "-XX:+UseSerialGC", "-cp",
                out + File.pathSeparator + room.resolve("tests"), test)
                .redirectErrorStream(true).redirectOutput(ProcessBuilder.Redirect.DISCARD).start();
        if (!process.waitFor(PATIENCE_SECONDS, TimeUnit.SECONDS)) {
            process.destroyForcibly();
            return false;
        }
        return process.exitValue() == 0;
    }
}
