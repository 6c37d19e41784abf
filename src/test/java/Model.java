import java.math.BigInteger;
import java.util.ArrayList;
import java.util.Arrays;
import java.util.Comparator;
import java.util.List;
import java.util.TreeMap;

/**
 * The document a second time, by other ways than HutFlock's (states kept whole, every way tried), for ModelTest.
 * Calls go by name, so that the test can make them up.
 */
final class Model {
    private static final int BAD = -1, FULL = -2, FINDING = -3, STATE = -4, SPENT = -6, NONE = -9;

    /** A hut; brick is NONE if it is lost. */
    private record Hut(int number, char letter, int home, int strength, int brown, int brick) {
        Hut with(int newHome, int newStrength, int newBrown, int newBrick) {
            return new Hut(number, letter, newHome, newStrength, newBrown, newBrick);
        }

        boolean there() {
            return brick != NONE;
        }

        boolean stays(int wind) {
            return letter == 'l' && wind > 4;
        }

        int flight(int wind) {
            int guard = (wind - wind % 2) / 2;
            return "pc".indexOf(letter) >= 0 ? wind + 1 : letter == 'g' ? guard : letter == 'k' ? guard + 1 : wind;
        }

        int tires(int wind) {
            return stays(wind) ? 0 : flight(wind);
        }

        int late() {
            return "hplgck".indexOf(letter) < 0 ? NONE : new int[] {1, 3, 1, 0, 2, 2}["hplgck".indexOf(letter)];
        }

        int wants() {
            return letter == 'c' ? (home + 1) % 10 : home;
        }
    }

    private record Front(List<Hut> huts, int food, int due, int[] winds) {
        int wind() {
            return winds[due % 4];
        }

        List<Hut> there() {
            return huts.stream().filter(Hut::there).toList();
        }

        Front with(Hut... changed) {
            List<Hut> all = new ArrayList<>(huts);
            for (Hut h : changed) {
                all.set(h.number, h);
            }
            return new Front(all, food, due, winds);
        }

        List<Hut> comingBack() {
            return huts.stream().filter(h -> h.there() && !h.stays(wind()) && h.strength >= h.tires(wind()))
                    .map(h -> h.with(h.home, h.strength - h.tires(wind()), h.brown, NONE))
                    .sorted(Comparator.comparingInt(Hut::late).thenComparingInt(h -> -h.strength)
                            .thenComparingInt(Hut::number))
                    .toList();
        }

        Front winter() {
            List<Hut> all = new ArrayList<>();
            TreeMap<Integer, Integer> taken = new TreeMap<>();
            int left = food;
            for (Hut h : huts) {
                boolean stays = h.there() && h.stays(wind());
                boolean hungry = stays && left == 0;
                left -= stays && left > 0 ? 1 : 0;
                all.add(h.with(h.home, hungry ? Math.max(0, h.strength - 1) : h.strength, h.brown,
                        stays ? h.brick : NONE));
                if (stays) {
                    taken.put(h.brick, h.number);
                }
            }
            for (Hut h : comingBack()) {
                int best = NONE;
                for (int b = 0; b < 10; b++) {
                    if (!taken.containsKey(b)
                            && (best == NONE || Math.abs(b - h.wants()) < Math.abs(best - h.wants()))) {
                        best = b;
                    }
                }
                taken.put(best, h.number);
                all.set(h.number, h.with(h.home, h.strength, Math.min(9, h.brown + 1), best));
            }
            return new Front(all, left, due + 1, winds);
        }

        Front winters(int n) {
            Front f = this;
            for (int m = 0; m < n; m++) {
                f = f.winter();
            }
            return f;
        }

        Front fed(int i) {
            Hut h = huts.get(i);
            Front f = with(h.with(h.home, Math.min(9, h.strength + 2), h.brown, h.brick));
            return new Front(f.huts, food - 1, due, winds);
        }
    }

    private final int[][] rows = new int[6][];
    private final byte[][] texts = new byte[4][];
    private List<Front> past = new ArrayList<>();
    private final List<List<Front>> kept = new ArrayList<>(Arrays.asList(null, null, null));
    private int told = 0;
    private BigInteger upper = BigInteger.ZERO;
    private BigInteger lower = BigInteger.ONE;
    private final List<Integer> findings = new ArrayList<>();

    private Front now() {
        return past.isEmpty() ? new Front(List.of(), 0, 0, new int[4]) : past.get(past.size() - 1);
    }

    private int deeds() {
        return Math.max(0, past.size() - 1);
    }

    private int find(int f) {
        findings.add(f);
        return FINDING;
    }

    private static boolean in(int v, int low, int high) {
        return v >= low && v <= high;
    }

    private int tell(int v, int answer) {
        told = v;
        return answer;
    }

    long call(String name, int... a) {
        switch (name) {
            case "row": case "lay": case "at": case "tear": case "copy": case "mean":
                return rowCall(name, a);
            case "text": case "put": case "fault": case "front":
                return textCall(name, a);
            case "hut": case "mark": case "tires":
                return hutCall(name, a);
            case "winter": case "feed": case "sell": case "storm": case "undo": case "keep": case "on": case "lots":
                return deedCall(name, a);
            case "then": case "lost": case "order": case "least":
                return aheadCall(name, a);
            case "vee": case "pairs": case "duel": case "odds": case "mid":
                return searchCall(name, a);
            case "kinds": case "test": case "flown":
                return signCall(name, a);
            case "asked":
                return told;
            case "upper":
                return upper.longValueExact();
            case "lower":
                return lower.longValueExact();
            case "count":
                return in(a[0], 0, 10) ? count()[a[0]] : BAD;
            case "finding":
                return findings.isEmpty() ? 0 : findings.get(findings.size() - 1);
            case "findings":
                return in(a[0], 1, 5) ? findings.stream().filter(f -> f == a[0]).count() : BAD;
            case "digest":
                return digest();
            default:
                throw new IllegalArgumentException(name);
        }
    }

    private int rowCall(String name, int... a) {
        int r = a[0];
        if (!in(r, 0, 5) || name.equals("copy") && !in(a[2], 0, 5) || name.equals("row") && a[1] > 40) {
            return BAD;
        }
        if (name.equals("row")) {
            if (a[1] < 0) {
                return find(5);
            }
            rows[r] = new int[a[1]];
            return a[1];
        }
        if (name.equals("copy") && a[4] < 0) {
            return find(5);
        }
        if (rows[r] == null || name.equals("copy") && rows[a[2]] == null) {
            return find(1);
        }
        switch (name) {
            case "tear":
                rows[r] = null;
                return 1;
            case "mean":
                BigInteger sum = BigInteger.ZERO;
                for (int v : rows[r]) {
                    sum = sum.add(BigInteger.valueOf(v));
                }
                return rows[r].length == 0 ? find(4)
                        : tell(sum.divide(BigInteger.valueOf(rows[r].length)).intValueExact(), 1);
            case "copy":
                if (a[1] < 0 || a[3] < 0 || (long) a[1] + a[4] > rows[r].length
                        || (long) a[3] + a[4] > rows[a[2]].length) {
                    return find(2);
                }
                int[] taken = Arrays.copyOfRange(rows[r], a[1], a[1] + a[4]);
                for (int i = 0; i < a[4]; i++) {
                    rows[a[2]][a[3] + i] = taken[i];
                }
                return 1;
            default:
                if (!in(a[1], 0, rows[r].length - 1)) {
                    return find(2);
                }
                told = rows[r][a[1]];
                if (name.equals("lay")) {
                    rows[r][a[1]] = a[2];
                }
                return 1;
        }
    }

    private int textCall(String name, int... a) {
        int t = a[0];
        if (!in(t, 0, 3) || name.equals("text") && a[1] > 60) {
            return BAD;
        }
        if (name.equals("text")) {
            if (a[1] < 0) {
                return find(5);
            }
            texts[t] = new byte[a[1]];
            Arrays.fill(texts[t], (byte) ' ');
            return a[1];
        }
        if (texts[t] == null) {
            return find(1);
        }
        if (name.equals("put")) {
            if (!in(a[1], 0, texts[t].length - 1)) {
                return find(2);
            }
            int was = texts[t][a[1]];
            texts[t][a[1]] = (byte) a[2];
            return 1000 + was;
        }
        StringBuilder all = new StringBuilder();
        for (byte b : texts[t]) {
            all.append((char) (b & 255));
        }
        int fault = fault(all.toString());
        if (name.equals("fault")) {
            return fault;
        }
        if (fault != NONE) {
            return STATE;
        }
        past = new ArrayList<>(List.of(read(all.toString().replace(" ", ""))));
        for (int k = 0; k < 3; k++) {
            kept.set(k, null);
        }
        return now().huts.size();
    }

    /** By a pattern of signs: what is due at each place, after what has been there. */
    private static int fault(String s) {
        int p = 0;
        String item = "";
        List<String> items = new ArrayList<>();
        for (; p < s.length(); p++) {
            char c = s.charAt(p);
            int whole = items.isEmpty() ? 7 : 4;
            if (item.isEmpty() && c == ' ') {
                continue;
            }
            boolean letter = item.isEmpty();
            String wanted = !letter ? "0123456789" : items.isEmpty() ? "f" : items.size() == 7 ? "" : "hplgck";
            if (wanted.indexOf(c) < 0) {
                return p;
            }
            item += c;
            if (whole == 4 && item.length() == 2 && items.stream().skip(1).anyMatch(o -> o.charAt(1) == c)) {
                return p;
            }
            if (item.length() == whole) {
                if (whole == 7 && Integer.parseInt(item.substring(5)) > 40) {
                    return p - 1;
                }
                items.add(item);
                item = "";
            }
        }
        return item.isEmpty() && items.size() > 1 ? NONE : s.length();
    }

    private static Front read(String s) {
        int[] winds = new int[4];
        for (int m = 0; m < 4; m++) {
            winds[m] = s.charAt(1 + m) - '0';
        }
        List<Hut> huts = new ArrayList<>();
        for (int p = 7; p < s.length(); p += 4) {
            int home = s.charAt(p + 1) - '0';
            huts.add(new Hut(huts.size(), s.charAt(p), home, s.charAt(p + 2) - '0', s.charAt(p + 3) - '0', home));
        }
        return new Front(huts, Integer.parseInt(s.substring(5, 7)), 0, winds);
    }

    private boolean known(int i) {
        return in(i, 0, now().huts.size() - 1);
    }

    private static int kind(Hut h) {
        return "hplgck".indexOf(h.letter);
    }

    private int[] hutValues(Hut h) {
        return new int[] {kind(h), h.home, h.strength, h.brown, h.brick, h.tires(now().wind()), h.late()};
    }

    private int hutCall(String name, int... a) {
        if (!known(a[0])) {
            return BAD;
        }
        Hut h = now().huts.get(a[0]);
        int wind = now().wind();
        if (name.equals("hut")) {
            return in(a[1], 0, 6) ? tell(hutValues(h)[a[1]], 1) : BAD;
        }
        if (name.equals("tires")) {
            return !in(a[1], 0, 9) ? BAD : h.stays(a[1]) ? 10 : h.tires(a[1]);
        }
        if (!in(a[1], 1, 5)) {
            return BAD;
        }
        String letters = new String[] {"", "pc", "l", "gk", "c", "k"}[a[1]];
        if (letters.indexOf(h.letter) < 0) {
            return find(3);
        }
        switch (a[1]) {
            case 1:
                return h.tires(wind) - wind;
            case 2:
                return h.stays(wind) ? 1 : 0;
            case 3:
                return 10 + wind - h.tires(wind);
            case 4:
                return now().huts.stream().filter(o -> o.brick == h.wants()).mapToInt(Hut::number).findFirst()
                        .orElse(10);
            default:
                return (int) now().huts.stream().filter(o -> o.late() < h.late()).count();
        }
    }

    private int there() {
        return now().there().size();
    }

    private int deedCall(String name, int... a) {
        int huts = now().huts.size();
        boolean full = deeds() >= 40;
        switch (name) {
            case "winter":
                return huts == 0 ? STATE : full ? FULL : act(now().winter(), -1);
            case "feed":
                return !known(a[0]) ? BAD : !now().huts.get(a[0]).there() ? STATE : now().food == 0 ? SPENT
                        : full ? FULL : act(now().fed(a[0]), a[0]);
            case "sell":
                if (!known(a[0]) || !known(a[1]) || a[0] == a[1]) {
                    return BAD;
                }
                Hut h = now().huts.get(a[0]);
                Hut o = now().huts.get(a[1]);
                if (!h.there() || !o.there()) {
                    return STATE;
                }
                if (full) {
                    return FULL;
                }
                act(now().with(h.with(o.home, h.strength, h.brown, h.brick),
                        o.with(h.home, o.strength, o.brown, o.brick)), -1);
                return o.home;
            case "storm":
                if (!known(a[0])) {
                    return BAD;
                }
                Hut s = now().huts.get(a[0]);
                return !s.there() ? STATE : full ? FULL : act(now().with(s.with(s.home, s.strength, s.brown, NONE)), -1);
            case "undo":
                if (!in(a[0], 0, deeds())) {
                    return BAD;
                }
                int undone = deeds() - a[0];
                past = new ArrayList<>(past.subList(0, past.isEmpty() ? 0 : a[0] + 1));
                return undone;
            case "keep":
                if (!in(a[0], 0, 2) || huts == 0) {
                    return in(a[0], 0, 2) ? STATE : BAD;
                }
                kept.set(a[0], new ArrayList<>(past));
                return deeds();
            case "on":
                if (!in(a[0], 0, 2) || kept.get(a[0]) == null) {
                    return in(a[0], 0, 2) ? find(1) : BAD;
                }
                past = new ArrayList<>(kept.get(a[0]));
                return deeds();
            default:
                return lots(a[0], a[1]);
        }
    }

    private int act(Front next, int fed) {
        past.add(next);
        return fed < 0 ? there() : next.huts.get(fed).strength;
    }

    private int lots(int n, int seed) {
        if (!in(n, 1, 20) || seed < 1 || seed == Integer.MAX_VALUE) {
            return BAD;
        }
        if (now().huts.isEmpty()) {
            return STATE;
        }
        if (deeds() + n > 40) {
            return FULL;
        }
        BigInteger lot = BigInteger.valueOf(seed);
        for (int d = 0; d < n; d++) {
            lot = lot.multiply(BigInteger.valueOf(48271)).mod(BigInteger.valueOf(2147483647));
            int i = lot.divide(BigInteger.valueOf(8)).mod(BigInteger.valueOf(now().huts.size())).intValue();
            boolean feeds = lot.mod(BigInteger.valueOf(3)).signum() == 0 && now().food > 0
                    && now().huts.get(i).there();
            act(feeds ? now().fed(i) : now().winter(), -1);
        }
        return there();
    }

    private int aheadCall(String name, int... a) {
        if (name.equals("order")) {
            if (!in(a[0], 0, 5) || now().huts.isEmpty()) {
                return in(a[0], 0, 5) ? STATE : BAD;
            }
            rows[a[0]] = now().comingBack().stream().mapToInt(Hut::number).toArray();
            return rows[a[0]].length;
        }
        if (!known(a[0]) || a.length > 1 && !in(a[1], 0, 40)) {
            return BAD;
        }
        if (name.equals("then")) {
            Hut h = now().winters(a[1]).huts.get(a[0]);
            return h.there() ? tell(h.strength, h.brick) : NONE;
        }
        if (name.equals("lost")) {
            for (int n = 0; n <= 40; n++) {
                if (!now().winters(n).huts.get(a[0]).there()) {
                    return n;
                }
            }
            return NONE;
        }
        Hut h = now().huts.get(a[0]);
        for (int more = 0; more <= 20; more++) {
            Front f = now().with(h.with(h.home, h.strength + more, h.brown, h.brick));
            if (f.winters(a[1]).huts.get(a[0]).there()) {
                return more;
            }
        }
        return NONE;
    }

    private int searchCall(String name, int... a) {
        boolean bad = switch (name) {
            case "vee" -> !in(a[0], 0, 4) || !in(a[1], 0, 5);
            case "pairs" -> !in(a[0], 0, 5);
            case "duel" -> !in(a[0], 0, 6);
            case "odds" -> !in(a[0], 0, 6) || !in(a[1], 0, 12);
            default -> !in(a[0], 0, 12);
        };
        boolean chance = name.equals("odds") || name.equals("mid");
        if (bad || (chance ? now().huts.isEmpty() : there() == 0)) {
            return bad ? BAD : STATE;
        }
        switch (name) {
            case "vee":
                return vee(a[0], a[1]);
            case "pairs":
                return pairs(a[0]);
            case "duel":
                List<Integer> strengths = new ArrayList<>(now().there().stream().map(Hut::strength).toList());
                return 100 + lead(strengths, a[0]);
            case "odds":
                chances(a[1], a[0]);
                return 1;
            default:
                chances(a[0], -1);
                return 1;
        }
    }

    private int vee(int legs, int r) {
        List<Hut> huts = now().there();
        int most = Integer.MIN_VALUE;
        int all = (int) Math.pow(huts.size(), legs);
        for (int way = 0; way < all; way++) {
            int[] fronts = new int[legs];
            for (int leg = legs - 1, rest = way; leg >= 0; leg--, rest /= huts.size()) {
                fronts[leg] = huts.get(rest % huts.size()).number;
            }
            int least = Integer.MAX_VALUE;
            for (Hut h : huts) {
                int strength = h.strength;
                for (int f : fronts) {
                    strength -= f == h.number ? h.flight(now().wind()) : h.flight(now().wind()) / 2;
                }
                least = Math.min(least, strength);
            }
            if (least > most) {
                most = least;
                rows[r] = fronts;
            }
        }
        return most + 100;
    }

    private int pairs(int r) {
        List<Hut> huts = now().there();
        List<int[]> ways = new ArrayList<>();
        give(huts.stream().map(Hut::brick).sorted().toList(), new int[huts.size()], 0, ways);
        int[] best = ways.stream().min(Comparator.<int[]>comparingInt(w -> apart(huts, w))
                .thenComparingInt(w -> far(huts, w)).thenComparing(Arrays::compare)).orElseThrow();
        rows[r] = best;
        return tell(far(huts, best), apart(huts, best));
    }

    private static void give(List<Integer> left, int[] given, int at, List<int[]> ways) {
        if (left.isEmpty()) {
            ways.add(given.clone());
        }
        for (int b = 0; b < left.size(); b++) {
            List<Integer> rest = new ArrayList<>(left);
            given[at] = rest.remove(b);
            give(rest, given, at + 1, ways);
        }
    }

    private static int apart(List<Hut> huts, int[] way) {
        int[] where = new int[6];
        Arrays.fill(where, NONE);
        for (int w = 0; w < way.length; w++) {
            where[huts.get(w).number] = way[w];
        }
        int sum = 0;
        for (int k = 0; k < 3; k++) {
            if (where[2 * k] != NONE && where[2 * k + 1] != NONE) {
                sum += Math.abs(where[2 * k] - where[2 * k + 1]);
            }
        }
        return sum;
    }

    private static int far(List<Hut> huts, int[] way) {
        int sum = 0;
        for (int w = 0; w < way.length; w++) {
            sum += Math.abs(huts.get(w).home - way[w]);
        }
        return sum;
    }

    /** The lead of the one whose turn it is, every choice tried. */
    private static int lead(List<Integer> left, int turns) {
        if (turns == 0 || left.isEmpty()) {
            return 0;
        }
        int best = Integer.MIN_VALUE;
        for (int c = 0; c < left.size(); c++) {
            List<Integer> rest = new ArrayList<>(left);
            int lured = rest.remove(c);
            best = Math.max(best, lured - lead(rest, turns - 1));
        }
        return best;
    }

    /** The chance of v or more, or (v is -1) the mean greatest strength, by every outcome of twelfths. */
    private void chances(int p, int v) {
        List<Hut> huts = now().winter().there();
        BigInteger sum = BigInteger.ZERO;
        for (int left = 0; left < 1 << huts.size(); left++) {
            BigInteger ways = BigInteger.ONE;
            int greatest = 0;
            for (int h = 0; h < huts.size(); h++) {
                boolean is = (left & 1 << h) != 0;
                ways = ways.multiply(BigInteger.valueOf(is ? 12 - p : p));
                greatest = is ? Math.max(greatest, huts.get(h).strength) : greatest;
            }
            int value = v < 0 ? greatest : Integer.bitCount(left) >= v ? 1 : 0;
            sum = sum.add(ways.multiply(BigInteger.valueOf(value)));
        }
        BigInteger whole = BigInteger.valueOf(12).pow(huts.size());
        BigInteger common = sum.gcd(whole);
        upper = sum.divide(common);
        lower = whole.divide(common);
    }

    private int signCall(String name, int... a) {
        if (name.equals("flown")) {
            return flown(a[0], a[1], a[2]);
        }
        if (!known(a[0]) || !in(a[1], 0, 5)) {
            return BAD;
        }
        int[] row = rows[a[1]];
        if (row == null || row.length % 2 == 1) {
            return find(row == null ? 1 : 5);
        }
        int kinds = 63;
        for (int s = 0; s < row.length; s += 2) {
            if (!in(row[s], 0, 9) || !in(row[s + 1], 0, 11)) {
                return find(3);
            }
            for (int k = 0; k < 6; k++) {
                if (ofKind(k).tires(row[s]) != row[s + 1]) {
                    kinds &= ~(1 << k);
                }
            }
        }
        return name.equals("kinds") ? kinds : kinds == 0 ? NONE : bestWind(kinds);
    }

    private int bestWind(int kinds) {
        int best = NONE;
        int least = 7;
        for (int wind = 0; wind < 10; wind++) {
            TreeMap<Integer, Integer> parts = new TreeMap<>();
            for (int k = 0; k < 6; k++) {
                if ((kinds & 1 << k) != 0) {
                    parts.merge(ofKind(k).tires(wind), 1, Integer::sum);
                }
            }
            int greatest = parts.values().stream().max(Integer::compare).orElseThrow();
            if (greatest < least) {
                least = greatest;
                best = wind;
            }
        }
        return tell(least, best);
    }

    private static Hut ofKind(int k) {
        return new Hut(0, "hplgck".charAt(k), 0, 0, 0, 0);
    }

    private int flown(int i, int n, int v) {
        if (!known(i) || !in(n, 0, 4) || !in(v, 0, 40)) {
            return BAD;
        }
        int ways = 0;
        int first = NONE;
        for (int row = 0; row < Math.pow(10, n); row++) {
            int sum = 0;
            for (int k = 0, rest = row; k < n; k++, rest /= 10) {
                sum += now().huts.get(i).tires(rest % 10);
            }
            if (sum == v) {
                first = ways == 0 ? row : first;
                ways++;
            }
        }
        return ways == 0 ? NONE : tell(first, ways);
    }

    private long[] count() {
        Front f = now();
        return new long[] {f.huts.size(), f.due, deeds(), f.food,
            f.there().stream().mapToInt(h -> 1 << h.number).sum(),
            f.there().stream().mapToInt(Hut::strength).sum(),
            f.huts.stream().filter(h -> h.home == h.brick).mapToInt(h -> 1 << h.number).sum(),
            f.huts.stream().filter(h -> h.letter == 'g' || h.letter == 'k').count(),
            Arrays.stream(rows).filter(r -> r != null).count(),
            Arrays.stream(texts).filter(t -> t != null).count(),
            kept.stream().filter(k -> k != null).count()};
    }

    private long digest() {
        List<Long> all = new ArrayList<>();
        for (long c : count()) {
            all.add(c);
        }
        for (Hut h : now().huts) {
            for (int v : hutValues(h)) {
                all.add((long) v);
            }
        }
        for (List<Front> k : kept) {
            all.add(k == null ? -1L : k.size() - 1);
        }
        for (int[] row : rows) {
            all.add(row == null ? -1L : row.length);
            for (int i = 0; row != null && i < row.length; i++) {
                all.add((long) row[i]);
            }
        }
        for (byte[] text : texts) {
            all.add(text == null ? -1L : text.length);
            for (int i = 0; text != null && i < text.length; i++) {
                all.add((long) text[i]);
            }
        }
        long h = 17;
        for (long v : all) {
            h = 31 * h + v;
        }
        return h;
    }
}
