import java.util.function.ToLongFunction;

/** Edges of promises 35 to 41: what is told, what is counted, found, and the digest. */
public final class ToldEdgesTest {
    private static final int NONE = HutFlock.NONE;
    private static final Due due = new Due();

    public static void main(String[] args) {
        before();
        askedByEight();
        askedByNoOther();
        askedStaysByNone();
        upperAndLower();
        foundByNoneThatIsTaken();
        findingsAddUp();
        countsAtTheirEnds();
        digestOfNothing();
        digestOfEnds();
        digestTellsApart();
        digestOfStates();
        due.end("ToldEdgesTest");
    }

    // "0 before", "1 before", "(0 before any)"
    private static void before() {
        HutFlock x = new HutFlock();
        due.is("35 asked()", x.asked(), 0);
        due.is("36 upper()", x.upper(), 0);
        due.is("37 lower()", x.lower(), 1);
        due.is("39 finding()", x.finding(), 0);
        for (int f = 1; f <= 5; f++) {
            due.is("40 findings(" + f + ")", x.findings(f), 0);
        }
        for (int what = 0; what <= 10; what++) {
            due.is("38 count(" + what + ")", x.count(what), 0);
        }
    }

    /** Six HUTS, a ROW that asked() tells 77 of, a ROW of signs; kept FRONT 0. */
    private static HutFlock made() {
        HutFlock x = Due.front("f215305 h190 p382 l264 g871 c059 k743");
        x.winter();
        x.keep(0);
        x.row(1, 2);
        x.lay(1, 0, 4);
        x.lay(1, 1, 5);
        x.row(0, 3);
        x.lay(0, 0, 77);
        x.lay(0, 1, 80);
        x.odds(1, 6);
        x.at(0, 0);
        return x;
    }

    // Promise 35: "the latest lay(), at(), mean(), hut(), then(), pairs(), test(), flown()"
    private static void askedByEight() {
        asked("lay(0, 1, 9)", x -> x.lay(0, 1, 9), 1, 80);
        asked("at(0, 1)", x -> x.at(0, 1), 1, 80);
        asked("mean(0)", x -> x.mean(0), 1, 52);
        asked("hut(0, 2)", x -> x.hut(0, 2), 1, 7);
        asked("then(0, 1)", x -> x.then(0, 1), 1, 6);
        asked("pairs(5)", x -> x.pairs(5), 3, 12);
        asked("test(0, 1)", x -> x.test(0, 1), 0, 2);
        asked("flown(0, 2, 9)", x -> x.flown(0, 2, 9), 10, 9);
        asked("at(0, 2)", x -> x.at(0, 2), 1, 0);
    }

    private static void asked(String call, ToLongFunction<HutFlock> made, int answer, int want) {
        HutFlock x = made();
        due.is("35 asked() ahead of " + call, x.asked(), 77);
        due.is("35 " + call, made.applyAsLong(x), answer);
        due.is("35 asked() behind " + call, x.asked(), want);
        due.is("35 asked() again", x.asked(), want);
    }

    private static void askedByNoOther() {
        others("row", x -> x.row(2, 4));
        others("tear", x -> x.tear(0));
        others("copy", x -> x.copy(0, 0, 1, 0, 2));
        others("text", x -> x.text(1, 4));
        others("put", x -> x.put(0, 0, 32));
        others("fault", x -> x.fault(0));
        others("front", x -> x.front(0));
        others("mark", x -> x.mark(1, 1));
        others("tires", x -> x.tires(1, 1));
        others("winter", x -> x.winter());
        others("feed", x -> x.feed(0));
        others("sell", x -> x.sell(0, 1));
        others("storm", x -> x.storm(0));
        others("undo", x -> x.undo(0));
        others("keep", x -> x.keep(1));
        others("on", x -> x.on(0));
        others("lost", x -> x.lost(0));
        others("order", x -> x.order(2));
        others("least", x -> x.least(0, 9));
        others("vee", x -> x.vee(2, 2));
        others("kinds", x -> x.kinds(0, 1));
        others("duel", x -> x.duel(3));
        others("lots", x -> x.lots(4, 5));
        others("count", x -> x.count(5));
        others("findings", x -> x.findings(5));
        others("digest", x -> x.digest());
        HutFlock x = made();
        x.odds(2, 1);
        x.mid(5);
        due.is("35 asked() behind odds(), mid()", x.asked(), 77);
    }

    /** A call that is taken, and tells nothing by asked(), upper(), lower(), finding(). */
    private static void others(String call, ToLongFunction<HutFlock> made) {
        HutFlock x = made();
        long upper = x.upper();
        long lower = x.lower();
        long answer = made.applyAsLong(x);
        boolean refused = answer < 0 && answer != NONE && !call.equals("digest");
        due.is("35 " + call + "() is taken", refused ? 1 : 0, 0);
        due.is("35 asked() behind " + call + "()", x.asked(), 77);
        due.is("36 upper() behind " + call + "()", x.upper(), upper);
        due.is("37 lower() behind " + call + "()", x.lower(), lower);
        due.is("39 finding() behind " + call + "()", x.finding(), 0);
    }

    // "that was not refused (nor answered NONE)"
    private static void askedStaysByNone() {
        HutFlock x = made();
        due.is("35 then() NONE", x.then(0, 40), NONE);
        due.is("35 flown() NONE", x.flown(0, 0, 1), NONE);
        x.row(2, 2);
        x.lay(2, 1, 11);
        x.at(0, 0);
        due.is("35 test() NONE", x.test(0, 2), NONE);
        due.is("35 asked() stays", x.asked(), 77);
        // A HUT that is lost is told by asked(), as NONE.
        x.storm(0);
        due.is("35 hut() of a lost one", x.hut(0, 4), 1);
        due.is("35 asked() is NONE", x.asked(), NONE);
    }

    // Promises 36, 37: "in lowest terms, the lower number above 0 (0 by 1)"
    private static void upperAndLower() {
        HutFlock x = Due.front("f000000 h090 h130");
        x.odds(2, 9);
        due.is("36 1 of 16", x.upper(), 1);
        due.is("37 1 of 16", x.lower(), 16);
        due.is("36 upper() again", x.upper(), 1);
        x.mid(12);
        due.is("36 0", x.upper(), 0);
        due.is("37 by 1", x.lower(), 1);
        x.mid(4);
        // 9 by 2 / 3, 3 by 2 / 9.
        due.is("36 20 of 3", x.upper(), 20);
        due.is("37 20 of 3", x.lower(), 3);
        x.odds(3, 0);
        due.is("36 0 again", x.upper(), 0);
        due.is("37 by 1 again", x.lower(), 1);
        x.odds(0, 12);
        due.is("36 1", x.upper(), 1);
        due.is("37 by 1, too", x.lower(), 1);
    }

    // Promise 39
    private static void foundByNoneThatIsTaken() {
        HutFlock x = made();
        x.mark(0, 1);
        due.is("39 UNLIKE", x.finding(), 3);
        x.at(0, 0);
        due.is("39 stays by a call that is taken", x.finding(), 3);
        x.feed(6);
        x.count(11);
        x.findings(0);
        due.is("39 stays by BAD", x.finding(), 3);
        x.then(0, 40);
        due.is("39 stays by NONE", x.finding(), 3);
        x.storm(0);
        x.feed(0);
        due.is("39 stays by STATE", x.finding(), 3);
        for (int d = 0; d < 9; d++) {
            x.feed(1);
        }
        due.is("39 stays by SPENT", x.finding(), 3);
        x.lots(20, 1);
        x.lots(20, 1);
        due.is("39 stays by FULL", x.finding(), 3);
        due.is("40 once", x.findings(3), 1);
        x.front(0);
        due.is("39 stays by a new FRONT", x.finding(), 3);
        due.is("40 still once", x.findings(3), 1);
    }

    // Promise 40: "How often a FINDING (1 .. 5) was answered."
    private static void findingsAddUp() {
        HutFlock x = Due.front("f000000 h090");
        x.row(0, 0);
        for (int times = 1; times <= 40; times++) {
            x.tear(5);
            due.is("39 NOTHING", x.finding(), 1);
            if (times % 2 == 0) {
                x.at(0, 0);
                due.is("39 BEYOND", x.finding(), 2);
            }
            if (times % 3 == 0) {
                x.mark(0, 5);
                due.is("39 UNLIKE", x.finding(), 3);
            }
            if (times % 4 == 0) {
                x.mean(0);
                due.is("39 NOUGHT", x.finding(), 4);
            }
            if (times % 5 == 0) {
                x.text(0, -1);
                due.is("39 SIZE", x.finding(), 5);
            }
        }
        for (int f = 1; f <= 5; f++) {
            due.is("40 findings(" + f + ")", x.findings(f), 40 / f);
        }
    }

    // Promise 38
    private static void countsAtTheirEnds() {
        HutFlock x = Due.front("f000040 k090 g190 k290 g390 k490 g590");
        for (int r = 0; r <= 5; r++) {
            x.row(r, 0);
        }
        for (int t = 1; t <= 3; t++) {
            x.text(t, 0);
        }
        for (int k = 0; k <= 2; k++) {
            x.keep(k);
        }
        int[] most = {6, 0, 0, 40, 63, 54, 63, 6, 6, 4, 3};
        for (int what = 0; what <= 10; what++) {
            due.is("38 count(" + what + ") at most", x.count(what), most[what]);
        }
        HutFlock y = Due.front("f000000 p000");
        int[] least = {1, 0, 0, 0, 1, 0, 1, 0, 0, 1, 0};
        for (int what = 0; what <= 10; what++) {
            due.is("38 count(" + what + ") at least", y.count(what), least[what]);
        }
        y = Due.front("f000000 h090 p190 l290 g390 c490 k590");
        due.is("38 GUARDS", y.count(7), 2);
        y.winter();
        due.is("38 at HOMES, but for the CUCKOO and the CHICK at whose HOME it is", y.count(6), 0b001111);
        for (int d = 1; d < 40; d++) {
            y.winter();
        }
        due.is("38 WINTER 40", y.count(1), 40);
        due.is("38 DEEDS 40", y.count(2), 40);
    }

    private static long fold(long h, int... all) {
        for (int v : all) {
            h = 31 * h + v;
        }
        return h;
    }

    // Promise 41
    private static void digestOfNothing() {
        long h = fold(17, 0, 0, 0, 0, 0, 0, 0, 0, 0, 0, 0);
        h = fold(h, -1, -1, -1);
        h = fold(h, -1, -1, -1, -1, -1, -1);
        h = fold(h, -1, -1, -1, -1);
        due.is("41 of nothing", new HutFlock().digest(), h);
    }

    /** The first and the last ROW, TEXT, kept place; ROWS and TEXTS of none and of all; bytes below 0. */
    private static void digestOfEnds() {
        HutFlock x = Due.front("f900040h999c818");
        x.storm(0);
        x.keep(2);
        x.row(0, 0);
        x.row(5, 40);
        x.text(1, 0);
        x.text(3, 60);
        for (int i = 0; i < 40; i++) {
            x.lay(5, i, i % 2 == 0 ? Integer.MIN_VALUE : i);
        }
        for (int i = 0; i < 60; i++) {
            x.put(3, i, 100 + i);
        }
        x.storm(1);
        long h = fold(17, 2, 0, 2, 40, 0, 0, 0, 0, 2, 3, 1);
        h = fold(h, 0, 9, 9, 9, NONE, 9, 1);
        h = fold(h, 4, 8, 1, 8, NONE, 10, 2);
        h = fold(h, -1, -1, 1);
        h = fold(h, 0, -1, -1, -1, -1, 40);
        for (int i = 0; i < 40; i++) {
            h = fold(h, i % 2 == 0 ? Integer.MIN_VALUE : i);
        }
        h = fold(h, 15, 'f', '9', '0', '0', '0', '4', '0', 'h', '9', '9', '9', 'c', '8', '1', '8');
        h = fold(h, 0, -1, 60);
        for (int i = 0; i < 60; i++) {
            h = fold(h, 100 + i > 127 ? i - 156 : 100 + i);
        }
        due.is("41 of ends", x.digest(), h);
    }

    /** "(-1: missing)" is another one than none. */
    private static void digestTellsApart() {
        HutFlock x = Due.front("f000000 h090");
        long plain = x.digest();
        x.row(0, 0);
        due.is("41 a ROW of none", x.digest() == plain ? 1 : 0, 0);
        x.tear(0);
        due.is("41 torn again", x.digest(), plain);
        x.keep(0);
        due.is("41 a kept FRONT without DEEDS", x.digest() == plain ? 1 : 0, 0);
        x.front(0);
        due.is("41 kept FRONTS go", x.digest(), plain);
        x.tear(5);
        x.hut(0, 2);
        x.odds(1, 5);
        due.is("41 not by what is told and found", x.digest(), plain);
        due.is("41 again", x.digest(), plain);
    }

    /** By what the other calls answer, in states of all sorts. */
    private static void digestOfStates() {
        for (State state : State.values()) {
            HutFlock x = state.make();
            long want = fold(17);
            for (int what = 0; what <= 10; what++) {
                want = fold(want, x.count(what));
            }
            for (int i = 0; i < x.count(0); i++) {
                for (int what = 0; what <= 6; what++) {
                    want = fold(want, Due.hut(x, i, what));
                }
            }
            HutFlock gone = state.make();
            for (int k = 0; k <= 2; k++) {
                int deeds = gone.on(k);
                want = fold(want, deeds >= 0 ? deeds : -1);
            }
            want = foldRows(want, state.make());
            want = foldTexts(want, state.make());
            due.is("41 of " + state, x.digest(), want);
        }
    }

    private static long foldRows(long h, HutFlock x) {
        for (int r = 0; r <= 5; r++) {
            String row = Due.row(x, r);
            int size = row.isEmpty() ? 0 : row.split(" ").length;
            h = fold(h, size == 0 && x.tear(r) != 1 ? -1 : size);
            for (int i = 0; i < size; i++) {
                h = fold(h, Integer.parseInt(row.split(" ")[i]));
            }
        }
        return h;
    }

    private static long foldTexts(long h, HutFlock x) {
        for (int t = 0; t <= 3; t++) {
            boolean missing = x.fault(t) == HutFlock.FINDING;
            StringBuilder bytes = new StringBuilder();
            for (int i = 0, was = x.put(t, 0, 0); was >= 0; i++, was = x.put(t, i, 0)) {
                bytes.append((char) was);
            }
            h = fold(h, missing ? -1 : bytes.length());
            for (int i = 0; i < bytes.length(); i++) {
                h = fold(h, bytes.charAt(i) - 1000);
            }
        }
        return h;
    }
}
