import java.io.IOException;
import java.io.PrintWriter;
import java.io.StringWriter;
import java.lang.reflect.Constructor;
import java.lang.reflect.Field;
import java.lang.reflect.Method;
import java.lang.reflect.Modifier;
import java.nio.file.Files;
import java.nio.file.Path;
import java.util.ArrayList;
import java.util.Arrays;
import java.util.List;
import java.util.Map;
import java.util.Set;
import java.util.TreeMap;
import java.util.TreeSet;
import java.util.regex.Matcher;
import java.util.regex.Pattern;
import java.util.spi.ToolProvider;

/** The face of the document, and those rules of ../shared/LANGUAGE.md that can be seen from outside. */
public final class LanguageTest {
    private static final Due due = new Due();
    private static final String[] FACE = {
        "int row(int,int)", "int lay(int,int,int)", "int at(int,int)", "int tear(int)",
        "int copy(int,int,int,int,int)", "int mean(int)", "int text(int,int)", "int put(int,int,int)",
        "int fault(int)", "int front(int)", "int hut(int,int)", "int mark(int,int)", "int tires(int,int)",
        "int winter()", "int feed(int)", "int sell(int,int)", "int storm(int)", "int undo(int)", "int keep(int)",
        "int on(int)", "int then(int,int)", "int lost(int)", "int order(int)", "int least(int,int)",
        "int vee(int,int)", "int pairs(int)", "int kinds(int,int)", "int test(int,int)", "int flown(int,int,int)",
        "int duel(int)", "int odds(int,int)", "int mid(int)", "int lots(int,int)", "int asked()", "long upper()",
        "long lower()", "int count(int)", "int finding()", "int findings(int)", "long digest()"};

    public static void main(String[] args) throws IOException, ReflectiveOperationException {
        face();
        nested();
        words(withoutComments(Files.readString(Path.of("src/main/java/HutFlock.java"))));
        callsAreShallow();
        due.end("LanguageTest");
    }

    private static void face() throws ReflectiveOperationException {
        Set<String> want = new TreeSet<>(Arrays.asList(FACE));
        Set<String> got = new TreeSet<>();
        for (Method m : HutFlock.class.getDeclaredMethods()) {
            if (Modifier.isPublic(m.getModifiers())) {
                String types = String.join(",", Arrays.stream(m.getParameterTypes()).map(Class::getName).toList());
                got.add(m.getReturnType() + " " + m.getName() + "(" + types + ")");
            } else {
                due.is(m + " is private", Modifier.isPrivate(m.getModifiers()) ? 1 : 0, 1);
            }
        }
        due.same("the methods", got.toString(), want.toString());
        String[] names = {"BAD", "FULL", "FINDING", "STATE", "SPENT", "NONE"};
        int[] values = {-1, -2, -3, -4, -6, -9};
        for (int c = 0; c < names.length; c++) {
            Field f = HutFlock.class.getField(names[c]);
            due.is(names[c], f.getInt(null), values[c]);
            due.is(names[c] + " is constant", f.getModifiers(), Modifier.PUBLIC | Modifier.STATIC | Modifier.FINAL);
        }
        due.is("public constants", HutFlock.class.getFields().length, names.length);
        for (Field f : HutFlock.class.getDeclaredFields()) {
            boolean fits = Modifier.isPublic(f.getModifiers()) || Modifier.isPrivate(f.getModifiers());
            due.is(f + " is private or of the face", fits ? 1 : 0, 1);
        }
        due.is("the class", HutFlock.class.getModifiers(), Modifier.PUBLIC | Modifier.FINAL);
        Constructor<?>[] made = HutFlock.class.getDeclaredConstructors();
        due.is("constructors", made.length, 1);
        due.is("its parameters", made[0].getParameterCount(), 0);
    }

    private static void nested() {
        Set<String> names = new TreeSet<>();
        for (String f : FACE) {
            names.add(f.replaceAll("^\\w+ |\\(.*", ""));
        }
        Class<?>[] inside = HutFlock.class.getDeclaredClasses();
        due.is("at most twelve classes", inside.length < 12 ? 1 : 0, 1);
        for (Class<?> c : inside) {
            due.is(c + " is static", Modifier.isStatic(c.getModifiers()) ? 1 : 0, 1);
            due.is(c + " is not public", Modifier.isPublic(c.getModifiers()) ? 1 : 0, 0);
            for (Method m : c.getDeclaredMethods()) {
                due.is(m + " has a name of the face", names.contains(m.getName()) ? 1 : 0, 0);
            }
            staticsAreFinal(c);
        }
        staticsAreFinal(HutFlock.class);
    }

    private static void staticsAreFinal(Class<?> c) {
        int fields = 0;
        for (Field f : c.getDeclaredFields()) {
            boolean isStatic = Modifier.isStatic(f.getModifiers());
            fields += isStatic ? 0 : 1;
            due.is(f + " is final", isStatic && !Modifier.isFinal(f.getModifiers()) ? 1 : 0, 0);
        }
        due.is(c + " has at most twenty fields", fields <= 20 ? 1 : 0, 1);
        for (Method m : c.getDeclaredMethods()) {
            due.is(m + " has at most seven parameters", m.getParameterCount() <= 7 ? 1 : 0, 1);
        }
    }

    private static String withoutComments(String source) {
        return source.replaceAll("(?s)/\\*.*?\\*/", "").replaceAll("//[^\n]*", "");
    }

    private static void words(String source) {
        for (String word : List.of("throw", "throws", "try", "catch", "finally", "synchronized", "assert", "import",
                "package", "var", "record", "hashCode", "toString", "equals", "MAX_VALUE", "MIN_VALUE")) {
            due.is(word, Pattern.compile("\\b" + word + "\\b").matcher(source).find() ? 1 : 0, 0);
        }
        due.is("lambdas", source.contains("->") || source.contains("::") ? 1 : 0, 0);
        Set<String> library = Set.of("System.arraycopy", "Math.min", "Math.max", "Math.abs", "Math.floorMod",
                "Integer.bitCount");
        Matcher used = Pattern.compile("\\b(System|Math|Integer|Long|Arrays|String|Object)\\.\\w+").matcher(source);
        while (used.find()) {
            due.is(used.group() + " is of the library", library.contains(used.group()) ? 1 : 0, 1);
        }
        // No call makes an object: "new" stands where fields are set, once for each HutFlock.
        for (String line : source.split("\n")) {
            boolean makes = Pattern.compile("\\bnew\\b").matcher(line).find();
            boolean once = line.contains("private final ") || line.contains("        final ")
                    || line.contains("cells = new int[many][most]") || line.contains("sizes = new int[many]");
            due.is("made by a call: " + line, makes && !once ? 1 : 0, 0);
        }
        methodLengths(source);
    }

    private static void methodLengths(String source) {
        int depth = 0;
        int[] begun = new int[100];
        String[] lines = source.split("\n");
        for (int l = 0; l < lines.length; l++) {
            for (char c : lines[l].toCharArray()) {
                if (c == '{') {
                    begun[depth++] = l;
                } else if (c == '}') {
                    depth--;
                    boolean isClass = lines[begun[depth]].contains("class ");
                    boolean isShort = l - begun[depth] <= 60;
                    due.is("short: " + lines[begun[depth]], isClass || isShort ? 1 : 0, 1);
                }
            }
        }
    }

    /** Rule 11: no call goes more than eight deep, the library's own counted as one; none comes round to itself. */
    private static void callsAreShallow() {
        if (ToolProvider.findFirst("javap").isEmpty()) {
            System.out.println("LanguageTest: there is no javap here, so how deep calls go was not looked at");
            return;
        }
        Map<String, List<String>> calls = callsOf();
        int deepest = 0;
        for (String method : calls.keySet()) {
            deepest = Math.max(deepest, depth(method, calls, 0));
        }
        due.is("methods that javap tells of", calls.size() > 100 ? 1 : 0, 1);
        due.is("more than eight deep", deepest > 8 ? deepest : 0, 0);
    }

    private static int depth(String method, Map<String, List<String>> calls, int above) {
        int deepest = 1;
        // A call that comes round to itself is told as too deep, and not followed without end.
        if (above < 20) {
            for (String called : calls.getOrDefault(method, List.of())) {
                deepest = Math.max(deepest, 1 + depth(called, calls, above + 1));
            }
        }
        return deepest;
    }

    /** What each method of the file calls, by the compiled classes. */
    private static Map<String, List<String>> callsOf() {
        Map<String, List<String>> calls = new TreeMap<>();
        for (String type : typesOfTheFile()) {
            String method = "";
            for (String line : disassembled(type).split("\n")) {
                Matcher begins = Pattern.compile("^  [\\w$. \\[\\]]*?([\\w$]+)\\(.*\\);$").matcher(line);
                Matcher called = Pattern.compile("// Method (?:([\\w/$]+)\\.)?(\"<init>\"|\\w+):").matcher(line);
                if (begins.matches()) {
                    method = type + "." + (begins.group(1).equals(type) ? "<init>" : begins.group(1));
                    calls.put(method, new ArrayList<>());
                } else if (called.find()) {
                    String in = called.group(1) == null ? type : called.group(1);
                    calls.get(method).add(in + "." + called.group(2).replace("\"", ""));
                }
            }
        }
        return calls;
    }

    private static List<String> typesOfTheFile() {
        List<String> types = new ArrayList<>(List.of("HutFlock"));
        for (Class<?> c : HutFlock.class.getDeclaredClasses()) {
            types.add(c.getName());
        }
        return types;
    }

    private static String disassembled(String type) {
        StringWriter text = new StringWriter();
        PrintWriter out = new PrintWriter(text);
        int answer = ToolProvider.findFirst("javap").orElseThrow()
                .run(out, out, "-c", "-p", "-cp", System.getProperty("java.class.path"), type);
        due.is("javap " + type, answer, 0);
        return text.toString();
    }
}
