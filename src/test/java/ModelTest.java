import java.lang.reflect.Method;
import java.lang.reflect.Modifier;
import java.util.ArrayList;
import java.util.Comparator;
import java.util.List;
import java.util.Random;

/**
 * Runs of calls made up by a fixed seed, answered by HutFlock as by Model; state is looked at every now and then, as
 * looking is a call, too, and nothing is promised beyond 512 of them.
 */
public final class ModelTest {
    private static final int RUNS = 2500, CALLS = 512;
    private static final Due due = new Due();
    private static final Random random = new Random(20261118L);
    private static HutFlock flock;
    private static Model model;
    private static int run;
    private static int made;

    public static void main(String[] args) throws ReflectiveOperationException {
        List<Method> calls = new ArrayList<>();
        for (Method m : HutFlock.class.getDeclaredMethods()) {
            if (Modifier.isPublic(m.getModifiers())) {
                calls.add(m);
            }
        }
        calls.sort(Comparator.comparing(Method::getName));
        due.is("the face's methods", calls.size(), 40);
        for (run = 0; run < RUNS; run++) {
            flock = new HutFlock();
            model = new Model();
            made = 0;
            // Each time round more than one call may be made, seventy at most.
            while (made < CALLS - 70) {
                if (random.nextInt(70) == 0 || made == 0 && run % 10 != 0) {
                    writeFront(calls);
                } else {
                    callAny(calls);
                }
            }
            look("at the end");
        }
        due.end("ModelTest");
    }

    private static void callAny(List<Method> calls) throws ReflectiveOperationException {
        Method m = calls.get(random.nextInt(calls.size()));
        if (m.getName().equals("front") && random.nextInt(5) != 0) {
            return;
        }
        int[] a = new int[m.getParameterCount()];
        for (int i = 0; i < a.length; i++) {
            a[i] = number();
        }
        if (m.getName().equals("lots")) {
            a[1] = random.nextInt(4) == 0 ? a[1] : random.nextInt();
        }
        if (m.getName().equals("kinds") || m.getName().equals("test")) {
            laySigns(calls, a);
        }
        call(m, a);
        if (random.nextInt(4) == 0) {
            look("behind " + m.getName());
        }
    }

    private static int number() {
        switch (random.nextInt(20)) {
            case 0:
                return -1 - random.nextInt(2);
            case 1:
                return random.nextInt(70);
            case 2:
                return random.nextInt(14);
            case 3:
                return new int[] {Integer.MIN_VALUE, Integer.MAX_VALUE, Integer.MAX_VALUE - 1, 40, 41, 60, 61}
                        [random.nextInt(7)];
            default:
                return random.nextInt(random.nextInt(4) == 0 ? 10 : 6);
        }
    }

    /** Signs of some kind, so that kinds are often left. */
    private static void laySigns(List<Method> calls, int[] a) throws ReflectiveOperationException {
        if (random.nextInt(3) == 0) {
            return;
        }
        int n = random.nextInt(4) * 2;
        call(named(calls, "row"), a[1], n + (random.nextInt(12) == 0 ? 1 : 0));
        for (int s = 0; s < n; s += 2) {
            int wind = random.nextInt(10);
            call(named(calls, "lay"), a[1], s, wind);
            int tired = flock.tires(0, wind);
            made++;
            call(named(calls, "lay"), a[1], s + 1, tired >= 10 && random.nextBoolean() ? 0 : tired);
        }
    }

    private static Method named(List<Method> calls, String name) {
        return calls.stream().filter(m -> m.getName().equals(name)).findFirst().orElseThrow();
    }

    private static void writeFront(List<Method> calls) throws ReflectiveOperationException {
        String signs = signs();
        int t = random.nextInt(4);
        call(named(calls, "text"), t, signs.length());
        for (int i = 0; i < signs.length(); i++) {
            call(named(calls, "put"), t, i, signs.charAt(i));
        }
        call(named(calls, "fault"), t);
        call(named(calls, "front"), t);
    }

    private static String signs() {
        StringBuilder all = new StringBuilder(blanks()).append('f');
        boolean mild = random.nextBoolean();
        for (int m = 0; m < 4; m++) {
            all.append(random.nextInt(mild ? 3 : 10));
        }
        all.append(String.format("%02d", random.nextInt(random.nextInt(20) == 0 ? 100 : 41)));
        int huts = 1 + random.nextInt(random.nextInt(15) == 0 ? 7 : 6);
        List<Integer> homes = new ArrayList<>(List.of(0, 1, 2, 3, 4, 5, 6, 7, 8, 9));
        for (int i = 0; i < huts; i++) {
            int home = homes.remove(random.nextInt(homes.size()));
            home = random.nextInt(60) == 0 ? random.nextInt(10) : home;
            all.append(blanks()).append("hplgck".charAt(random.nextInt(6))).append(home)
                    .append(random.nextInt(3) == 0 ? random.nextInt(10) : 9 - random.nextInt(3))
                    .append(random.nextInt(10));
        }
        all.append(blanks());
        if (random.nextInt(5) == 0) {
            all.setCharAt(random.nextInt(all.length()), "fhx0 95".charAt(random.nextInt(7)));
        }
        all.setLength(Math.min(60, random.nextInt(10) == 0 ? random.nextInt(all.length()) : all.length()));
        return all.toString();
    }

    private static String blanks() {
        return "  ".substring(random.nextInt(3));
    }

    private static void call(Method m, int... a) throws ReflectiveOperationException {
        Object[] args = new Object[a.length];
        StringBuilder said = new StringBuilder("run " + run + ": " + m.getName());
        for (int i = 0; i < a.length; i++) {
            args[i] = a[i];
            said.append(i == 0 ? "(" : ", ").append(a[i]);
        }
        long got = ((Number) m.invoke(flock, args)).longValue();
        made++;
        due.is(said.toString(), got, model.call(m.getName(), a));
    }

    private static void look(String when) {
        String said = "run " + run + ", " + when + ": ";
        due.is(said + "asked()", flock.asked(), model.call("asked"));
        due.is(said + "upper()", flock.upper(), model.call("upper"));
        due.is(said + "lower()", flock.lower(), model.call("lower"));
        due.is(said + "finding()", flock.finding(), model.call("finding"));
        due.is(said + "digest()", flock.digest(), model.call("digest"));
        made += 5;
    }
}
