/** Promises 1 to 41, each by answers worked out by hand from the document. */
public final class PromisesTest {
    private static final int LEAST = Integer.MIN_VALUE, MOST = Integer.MAX_VALUE;
    private static final Due due = new Due();

    public static void main(String[] args) {
        newObject();
        rows();
        texts();
        faults();
        fronts();
        hutsAndMarks();
        winters();
        deeds();
        undoKeepOn();
        wintersToCome();
        vees();
        bricks();
        kindsAndTests();
        flights();
        duels();
        chances();
        lots();
        counts();
        findings();
        digests();
        due.end("PromisesTest");
    }

    // Promises 1, 35, 36, 37, 39, 40
    private static void newObject() {
        HutFlock x = new HutFlock();
        for (int what = 0; what <= 10; what++) {
            due.is("1 count(" + what + ")", x.count(what), 0);
        }
        for (int f = 1; f <= 5; f++) {
            due.is("1 findings(" + f + ")", x.findings(f), 0);
        }
        due.is("1 finding()", x.finding(), 0);
        due.is("1 asked()", x.asked(), 0);
        due.is("1 upper()", x.upper(), 0);
        due.is("1 lower()", x.lower(), 1);
        for (int r = 0; r < 6; r++) {
            due.is("1 tear(" + r + ")", x.tear(r), -3);
        }
        for (int t = 0; t < 4; t++) {
            due.is("1 fault(" + t + ")", x.fault(t), -3);
        }
        due.is("1 finding() NOTHING", x.finding(), 1);
        due.is("1 hut(0, 0)", x.hut(0, 0), -1);
    }

    // Promises 2 to 7
    private static void rows() {
        HutFlock x = new HutFlock();
        due.is("2 row(0, 40)", x.row(0, 40), 40);
        due.is("2 row(5, 0)", x.row(5, 0), 0);
        due.is("2 row(0, 41)", x.row(0, 41), -1);
        due.is("2 row(-1, 0)", x.row(-1, 0), -1);
        due.is("2 row(6, -1)", x.row(6, -1), -1);
        due.is("2 row(0, MOST)", x.row(0, MOST), -1);
        due.is("2 finding()", x.finding(), 0);
        due.is("2 row(0, -1)", x.row(0, -1), -3);
        due.is("2 row(0, LEAST)", x.row(0, LEAST), -3);
        due.is("2 finding() SIZE", x.finding(), 5);
        due.is("2 count(8)", x.count(8), 2);
        due.is("3 lay(0, 39, MOST)", x.lay(0, 39, MOST), 1);
        due.is("3 asked() 0", x.asked(), 0);
        due.is("3 lay(0, 39, -7)", x.lay(0, 39, -7), 1);
        due.is("3 asked() MOST", x.asked(), MOST);
        due.is("3 lay(0, 40, 1)", x.lay(0, 40, 1), -3);
        due.is("3 finding() BEYOND", x.finding(), 2);
        due.is("3 lay(5, 0, 1)", x.lay(5, 0, 1), -3);
        due.is("3 lay(0, -1, 1)", x.lay(0, -1, 1), -3);
        due.is("3 lay(1, 99, 1)", x.lay(1, 99, 1), -3);
        due.is("3 finding() NOTHING", x.finding(), 1);
        due.is("3 lay(6, 0, 1)", x.lay(6, 0, 1), -1);
        due.is("3 asked() still", x.asked(), MOST);
        due.is("4 at(0, 39)", x.at(0, 39), 1);
        due.is("4 asked()", x.asked(), -7);
        due.is("4 at(0, 40)", x.at(0, 40), -3);
        due.is("4 finding()", x.finding(), 2);
        due.is("4 at(2, 0)", x.at(2, 0), -3);
        due.is("4 finding()", x.finding(), 1);
        due.is("4 at(-1, 0)", x.at(-1, 0), -1);
        due.is("2 row(0, 3)", x.row(0, 3), 3);
        due.is("2 row(0, 40) anew", x.row(0, 40), 40);
        due.is("2 at(0, 39) is 0", Due.at(x, 0, 39), 0);
        x.lay(0, 0, 8);
        x.row(0, 1);
        due.is("2 at(0, 0) is 0", Due.at(x, 0, 0), 0);
        due.is("5 tear(5)", x.tear(5), 1);
        due.is("5 tear(5) again", x.tear(5), -3);
        due.is("5 tear(6)", x.tear(6), -1);
        due.is("5 count(8)", x.count(8), 1);
        copies();
        means();
    }

    private static HutFlock rising() {
        HutFlock x = new HutFlock();
        x.row(0, 5);
        for (int i = 0; i < 5; i++) {
            x.lay(0, i, i + 1);
        }
        x.row(1, 3);
        return x;
    }

    private static void copies() {
        HutFlock x = rising();
        due.is("6 copy(0, 0, 0, 1, 4)", x.copy(0, 0, 0, 1, 4), 1);
        due.same("6 as if taken ahead, up", Due.row(x, 0), "1 1 2 3 4");
        x = rising();
        due.is("6 copy(0, 1, 0, 0, 4)", x.copy(0, 1, 0, 0, 4), 1);
        due.same("6 as if taken ahead, down", Due.row(x, 0), "2 3 4 5 5");
        x = rising();
        due.is("6 copy(0, 2, 1, 0, 3)", x.copy(0, 2, 1, 0, 3), 1);
        due.same("6 another", Due.row(x, 1), "3 4 5");
        due.is("6 copy(0, 5, 1, 3, 0)", x.copy(0, 5, 1, 3, 0), 1);
        int beyond = x.findings(2);
        due.is("6 copy(0, 3, 1, 0, 3)", x.copy(0, 3, 1, 0, 3), -3);
        due.is("6 BEYOND", x.finding(), 2);
        due.is("6 copy(0, 0, 1, 1, 3)", x.copy(0, 0, 1, 1, 3), -3);
        due.is("6 copy(0, -1, 1, 0, 1)", x.copy(0, -1, 1, 0, 1), -3);
        due.is("6 copy(0, 0, 1, -1, 0)", x.copy(0, 0, 1, -1, 0), -3);
        due.is("6 copy(0, MOST, 1, 0, 1)", x.copy(0, MOST, 1, 0, 1), -3);
        due.is("6 copy(0, 1, 1, 0, MOST)", x.copy(0, 1, 1, 0, MOST), -3);
        due.is("6 copy(0, MOST, 1, MOST, MOST)", x.copy(0, MOST, 1, MOST, MOST), -3);
        due.is("6 findings(2)", x.findings(2) - beyond, 7);
        due.is("6 copy(0, 0, 5, 9, 1)", x.copy(0, 0, 5, 9, 1), -3);
        due.is("6 NOTHING", x.finding(), 1);
        due.is("6 copy(5, 0, 5, 0, -1)", x.copy(5, 0, 5, 0, -1), -3);
        due.is("6 SIZE ahead of NOTHING", x.finding(), 5);
        due.is("6 copy(0, 0, 6, 0, -1)", x.copy(0, 0, 6, 0, -1), -1);
        due.is("6 copy(-1, 0, 0, 0, 0)", x.copy(-1, 0, 0, 0, 0), -1);
        due.same("6 nothing changed", Due.row(x, 1), "3 4 5");
    }

    private static void means() {
        HutFlock x = rising();
        due.is("7 mean(0)", x.mean(0), 1);
        due.is("7 asked()", x.asked(), 3);
        x.row(2, 2);
        x.lay(2, 0, -3);
        x.mean(2);
        due.is("7 mean of -3, 0 is cut", x.asked(), -1);
        x.lay(2, 0, MOST);
        x.lay(2, 1, MOST);
        x.mean(2);
        due.is("7 mean of MOST, MOST", x.asked(), MOST);
        x.lay(2, 0, LEAST);
        x.lay(2, 1, LEAST);
        x.mean(2);
        due.is("7 mean of LEAST, LEAST", x.asked(), LEAST);
        x.row(3, 0);
        due.is("7 mean of none", x.mean(3), -3);
        due.is("7 NOUGHT", x.finding(), 4);
        due.is("7 mean of missing", x.mean(4), -3);
        due.is("7 NOTHING", x.finding(), 1);
        due.is("7 mean(6)", x.mean(6), -1);
        due.is("7 asked() still", x.asked(), LEAST);
    }

    // Promises 8, 9
    private static void texts() {
        HutFlock x = new HutFlock();
        due.is("8 text(3, 60)", x.text(3, 60), 60);
        due.is("8 text(0, 0)", x.text(0, 0), 0);
        due.is("8 text(0, 61)", x.text(0, 61), -1);
        due.is("8 text(4, -1)", x.text(4, -1), -1);
        due.is("8 text(-1, 0)", x.text(-1, 0), -1);
        due.is("8 text(0, -1)", x.text(0, -1), -3);
        due.is("8 SIZE", x.finding(), 5);
        due.is("8 count(9)", x.count(9), 2);
        due.is("9 put(3, 59, 300)", x.put(3, 59, 300), 1032);
        due.is("9 put(3, 59, 200)", x.put(3, 59, 200), 1044);
        due.is("9 put(3, 59, -1)", x.put(3, 59, -1), 944);
        due.is("9 put(3, 59, 128)", x.put(3, 59, 128), 999);
        due.is("9 put(3, 59, 127)", x.put(3, 59, 127), 872);
        due.is("9 put(3, 59, 0)", x.put(3, 59, 0), 1127);
        due.is("9 put(3, 59, 1)", x.put(3, 59, 1), 1000);
        due.is("9 put(3, 60, 1)", x.put(3, 60, 1), -3);
        due.is("9 BEYOND", x.finding(), 2);
        due.is("9 put(0, 0, 1)", x.put(0, 0, 1), -3);
        due.is("9 put(3, -1, 1)", x.put(3, -1, 1), -3);
        due.is("9 put(1, 0, 1)", x.put(1, 0, 1), -3);
        due.is("9 NOTHING", x.finding(), 1);
        due.is("9 put(4, 0, 1)", x.put(4, 0, 1), -1);
        due.is("8 text(3, 60) anew", x.text(3, 60), 60);
        due.is("8 blanks anew", x.put(3, 59, 5), 1032);
        due.is("8 blanks anew at 0", x.put(3, 0, 5), 1032);
        due.is("9 asked() stays", x.asked(), 0);
    }

    // Promise 10
    private static void faults() {
        fault("", 0);
        fault("    ", 4);
        fault("x", 0);
        fault("  h", 2);
        fault("F", 0);
        fault("f", 1);
        fault("f12", 3);
        fault("f12 4", 3);
        fault("f1234", 5);
        fault("f12340", 6);
        fault("f12344 ", 6);
        fault("f123441", 5);
        fault("f123499", 5);
        fault("  f123450h111", 7);
        fault("f12344x", 6);
        fault("f12349", 6);
        fault("f123440", 7);
        fault("f123440   ", 10);
        fault("f123400h111", HutFlock.NONE);
        fault("  f123400  h111  ", HutFlock.NONE);
        fault("f123440h000p100l200g300c400k500", HutFlock.NONE);
        fault("f123440h000p100l200g300c400k500   ", HutFlock.NONE);
        fault("f123440h000p100l200g300c400k500 h", 32);
        fault("f123440h000p100l200g300c400k500x", 31);
        fault("f123440h", 8);
        fault("f123440hx", 8);
        fault("f123440h ", 8);
        fault("f123440h1", 9);
        fault("f123440h1a", 9);
        fault("f123440h12", 10);
        fault("f123440h12:", 10);
        fault("f123440h12/", 10);
        fault("f123440h123 h1", 13);
        fault("f123440h123 p144 ", 13);
        fault("f123440 a123", 8);
        fault("f123440h1234", 11);
        fault("f123440f123440", 7);
        HutFlock x = new HutFlock();
        due.is("10 fault(0)", x.fault(0), -3);
        due.is("10 NOTHING", x.finding(), 1);
        due.is("10 fault(4)", x.fault(4), -1);
        due.is("10 fault(-1)", x.fault(-1), -1);
        Due.write(x, 1, "f123440h123");
        x.put(1, 8, 49 + 256);
        due.is("10 bytes are cut", x.fault(1), HutFlock.NONE);
        x.put(1, 8, -9);
        due.is("10 a byte below 0", x.fault(1), 8);
        due.is("10 fault makes no front", x.count(0), 0);
    }

    private static void fault(String signs, int want) {
        HutFlock x = new HutFlock();
        Due.write(x, 2, signs);
        due.is("10 fault of '" + signs + "'", x.fault(2), want);
        due.is("11 front of '" + signs + "'", x.front(2) == -4 ? 1 : 0, want == HutFlock.NONE ? 0 : 1);
    }

    // Promise 11
    private static void fronts() {
        HutFlock x = new HutFlock();
        due.is("11 front(4)", x.front(4), -1);
        due.is("11 front(-1)", x.front(-1), -1);
        due.is("11 front(0)", x.front(0), -3);
        due.is("11 NOTHING", x.finding(), 1);
        Due.write(x, 0, "f123440h190 p281");
        due.is("11 front(0)", x.front(0), 2);
        due.is("11 count(3)", x.count(3), 40);
        x.winter();
        x.feed(0);
        x.keep(0);
        x.keep(1);
        x.keep(2);
        Due.write(x, 1, "f1234");
        due.is("11 front(1)", x.front(1), -4);
        due.is("11 refused: DEEDS", x.count(2), 2);
        due.is("11 refused: kept", x.count(10), 3);
        due.is("11 refused: HUTS", x.count(0), 2);
        Due.write(x, 1, "f987607k345");
        due.is("11 front(1) anew", x.front(1), 1);
        due.is("11 WINTER 0", x.count(1), 0);
        due.is("11 no DEEDS", x.count(2), 0);
        due.is("11 FOOD", x.count(3), 7);
        due.is("11 kept FRONTS go", x.count(10), 0);
        due.is("11 on(1)", x.on(1), -3);
        due.is("11 at HOME", x.count(6), 1);
        due.is("11 KIND", Due.hut(x, 0, 0), 5);
        due.is("11 hut(1, 0)", x.hut(1, 0), -1);
    }

    // Promises 12, 13, 14
    private static void hutsAndMarks() {
        HutFlock x = Due.front("f705200 h192 p383 l264 g871 c957 k045");
        int[][] want = {
            {0, 1, 9, 2, 1, 7, 1}, {1, 3, 8, 3, 3, 8, 3}, {2, 2, 6, 4, 2, 0, 1},
            {3, 8, 7, 1, 8, 3, 0}, {4, 9, 5, 7, 9, 8, 2}, {5, 0, 4, 5, 0, 4, 2}};
        for (int i = 0; i < 6; i++) {
            for (int what = 0; what < 7; what++) {
                due.is("12 hut(" + i + ", " + what + ")", Due.hut(x, i, what), want[i][what]);
            }
        }
        due.is("12 hut(0, 7)", x.hut(0, 7), -1);
        due.is("12 hut(0, -1)", x.hut(0, -1), -1);
        due.is("12 hut(6, 0)", x.hut(6, 0), -1);
        due.is("12 hut(-1, 0)", x.hut(-1, 0), -1);
        marks(x);
        tires();
        x.storm(5);
        due.is("12 hut(5, 4) lost", x.hut(5, 4), 1);
        due.is("12 asked() NONE", x.asked(), -9);
        due.is("12 hut(5, 2) lost", Due.hut(x, 5, 2), 4);
        due.is("13 mark(4, 4) none there", x.mark(4, 4), 10);
        due.is("13 mark(5, 5) of one lost", x.mark(5, 5), 3);
        x.storm(0);
        due.is("13 mark(5, 5) lost ones, too", x.mark(5, 5), 3);
        x.undo(0);
        x.winter();
        due.is("12 hut(2, 5) wind 0", Due.hut(x, 2, 5), 0);
        due.is("12 hut(1, 5) wind 0", Due.hut(x, 1, 5), 1);
        due.is("13 mark(2, 2) wind 0", x.mark(2, 2), 0);
        due.is("13 mark(3, 3) wind 0", x.mark(3, 3), 10);
        due.is("13 mark(5, 3) wind 0", x.mark(5, 3), 9);
        HutFlock alone = Due.front("f000000 c450");
        due.is("13 no HUT", alone.mark(0, 4), 10);
        alone.winter();
        due.is("13 itself", alone.mark(0, 4), 0);
    }

    private static void marks(HutFlock x) {
        due.is("13 mark(1, 1)", x.mark(1, 1), 1);
        due.is("13 mark(4, 1)", x.mark(4, 1), 1);
        due.is("13 mark(2, 2)", x.mark(2, 2), 1);
        due.is("13 mark(3, 3)", x.mark(3, 3), 14);
        due.is("13 mark(5, 3)", x.mark(5, 3), 13);
        due.is("13 mark(4, 4) behind 9 is 0", x.mark(4, 4), 5);
        due.is("13 mark(5, 5)", x.mark(5, 5), 3);
        int[][] unlike = {{0, 1}, {0, 2}, {0, 3}, {0, 4}, {0, 5}, {1, 4}, {3, 5}, {2, 1}, {4, 3}, {5, 1}};
        for (int[] u : unlike) {
            due.is("13 mark(" + u[0] + ", " + u[1] + ")", x.mark(u[0], u[1]), -3);
        }
        due.is("13 UNLIKE", x.finding(), 3);
        due.is("13 findings(3)", x.findings(3), unlike.length);
        due.is("13 mark(0, 0)", x.mark(0, 0), -1);
        due.is("13 mark(1, 6)", x.mark(1, 6), -1);
        due.is("13 mark(1, -1)", x.mark(1, -1), -1);
        due.is("13 mark(6, 1)", x.mark(6, 1), -1);
        due.is("13 mark(-1, 1)", x.mark(-1, 1), -1);
    }

    private static void tires() {
        HutFlock x = Due.front("f705200 h192 p383 l264 g871 c957 k045");
        int[][] want = {
            {0, 1, 2, 3, 4, 5, 6, 7, 8, 9}, {1, 2, 3, 4, 5, 6, 7, 8, 9, 10},
            {0, 1, 2, 3, 4, 10, 10, 10, 10, 10}, {0, 0, 1, 1, 2, 2, 3, 3, 4, 4},
            {1, 2, 3, 4, 5, 6, 7, 8, 9, 10}, {1, 1, 2, 2, 3, 3, 4, 4, 5, 5}};
        for (int i = 0; i < 6; i++) {
            for (int wind = 0; wind < 10; wind++) {
                due.is("14 tires(" + i + ", " + wind + ")", x.tires(i, wind), want[i][wind]);
            }
        }
        due.is("14 tires(0, 10)", x.tires(0, 10), -1);
        due.is("14 tires(0, -1)", x.tires(0, -1), -1);
        due.is("14 tires(6, 0)", x.tires(6, 0), -1);
        due.is("14 tires(-1, 0)", x.tires(-1, 0), -1);
    }

    // Promise 15
    private static void winters() {
        due.is("15 winter() without HUTS", new HutFlock().winter(), -4);
        HutFlock x = Due.front("f600001 l231 l349");
        due.is("15 lilacs stay", x.winter(), 2);
        due.is("15 the first has FOOD", Due.hut(x, 0, 2), 3);
        due.is("15 the second has none", Due.hut(x, 1, 2), 3);
        due.is("15 who stays is not BROWN", Due.hut(x, 0, 3), 1);
        due.is("15 FOOD", x.count(3), 0);
        due.is("15 WINTER 1", x.count(1), 1);
        due.is("15 lilacs go", x.winter(), 2);
        due.is("15 BROWN is 1 more", Due.hut(x, 0, 3), 2);
        due.is("15 BROWN is 9 at most", Due.hut(x, 1, 3), 9);
        x = Due.front("f900000 l200 h190");
        due.is("15 one is lost", x.winter(), 2);
        due.is("15 STRENGTH 0 at least", Due.hut(x, 0, 2), 0);
        due.is("15 STRENGTH by 9", Due.hut(x, 1, 2), 0);
        x = Due.front("f500000 h140 p251 p362 h453");
        due.is("15 two are lost", x.winter(), 2);
        due.is("15 who", x.count(4), 12);
        due.is("15 STRENGTH of one lost", Due.hut(x, 0, 2), 4);
        due.is("15 BROWN of one lost", Due.hut(x, 1, 3), 1);
        landings();
        HutFlock full = Due.front("f000000 h190");
        for (int d = 0; d < 40; d++) {
            due.is("15 winter()", full.winter(), 1);
        }
        due.is("15 FULL", full.winter(), -2);
        due.is("15 WINTER 40", full.count(1), 40);
        HutFlock turn = Due.front("f123000 h190");
        int[] strengths = {8, 6, 3, 3, 2, 0};
        for (int m = 0; m < strengths.length; m++) {
            turn.winter();
            due.is("15 winds by turns " + m, Due.hut(turn, 0, 2), strengths[m]);
        }
    }

    private static void landings() {
        HutFlock x = Due.front("f000000 h350 c251");
        x.winter();
        due.is("15 no room: the lesser", Due.hut(x, 1, 4), 2);
        x.storm(0);
        x.winter();
        due.is("15 room", Due.hut(x, 1, 4), 3);
        x = Due.front("f000000 c950");
        x.winter();
        due.is("15 behind 9 is 0", Due.hut(x, 0, 4), 0);
        x = Due.front("f000000 c850");
        x.winter();
        due.is("15 behind 8 is 9", Due.hut(x, 0, 4), 9);
        x = Due.front("f000000 c480 c390 h560");
        x.winter();
        due.is("15 stronger cuckoo", Due.hut(x, 1, 4), 4);
        due.is("15 weaker cuckoo", Due.hut(x, 0, 4), 6);
        x = Due.front("f000000 h090 c990 h190");
        x.winter();
        due.is("15 nearest is not by a ring", Due.hut(x, 1, 4), 2);
        x = Due.front("f500000 l350 h259");
        x.sell(0, 1);
        x.winter();
        due.is("15 who stays keeps its BRICK", Due.hut(x, 0, 4), 3);
        due.is("15 beside one that stays", Due.hut(x, 1, 4), 2);
        x = Due.front("f000000 h150 h250");
        x.sell(0, 1);
        x.winter();
        due.is("15 all go ahead of landing", Due.hut(x, 0, 4), 2);
        due.is("15 all at HOMES", x.count(6), 3);
    }

    // Promises 16, 17, 18
    private static void deeds() {
        HutFlock x = Due.front("f000003 h150 p280 l390");
        due.is("16 feed(0)", x.feed(0), 7);
        due.is("16 feed(1) 9 at most", x.feed(1), 9);
        due.is("16 feed(2)", x.feed(2), 9);
        due.is("16 FOOD", x.count(3), 0);
        due.is("16 SPENT", x.feed(0), -6);
        due.is("16 feed(3)", x.feed(3), -1);
        due.is("16 feed(-1)", x.feed(-1), -1);
        due.is("17 sell(0, 2)", x.sell(0, 2), 3);
        due.is("17 HOME of the other", Due.hut(x, 2, 1), 1);
        due.is("17 BRICKS stay", Due.hut(x, 0, 4), 1);
        due.is("17 at HOMES", x.count(6), 2);
        due.is("17 alike", x.sell(1, 1), -1);
        due.is("17 sell(0, 3)", x.sell(0, 3), -1);
        due.is("17 sell(-1, 0)", x.sell(-1, 0), -1);
        due.is("18 storm(1)", x.storm(1), 2);
        due.is("18 lost", Due.hut(x, 1, 4), -9);
        due.is("18 again", x.storm(1), -4);
        due.is("18 storm(3)", x.storm(3), -1);
        due.is("18 storm(-1)", x.storm(-1), -1);
        due.is("16 STATE ahead of SPENT", x.feed(1), -4);
        due.is("17 STATE", x.sell(0, 1), -4);
        due.is("17 STATE", x.sell(1, 0), -4);
        due.is("17 BAD ahead of STATE", x.sell(1, 1), -1);
        due.is("18 DEEDS", x.count(2), 5);
        HutFlock full = Due.front("f000001 h150 h250 h350");
        full.storm(2);
        for (int d = 1; d < 40; d++) {
            full.winter();
        }
        due.is("16 FULL", full.feed(0), -2);
        due.is("17 FULL", full.sell(0, 1), -2);
        due.is("18 FULL", full.storm(0), -2);
        due.is("16 STATE ahead of FULL", full.feed(2), -4);
        due.is("17 STATE ahead of FULL", full.sell(0, 2), -4);
        due.is("18 STATE ahead of FULL", full.storm(2), -4);
        full.undo(0);
        full.feed(0);
        for (int d = 1; d < 40; d++) {
            full.winter();
        }
        due.is("16 SPENT ahead of FULL", full.feed(0), -6);
    }

    // Promises 19, 20, 21
    private static void undoKeepOn() {
        HutFlock x = new HutFlock();
        due.is("19 undo(0) without HUTS", x.undo(0), 0);
        due.is("19 undo(1) without HUTS", x.undo(1), -1);
        due.is("20 keep(0) without HUTS", x.keep(0), -4);
        due.is("20 keep(3) without HUTS", x.keep(3), -1);
        due.is("21 on(0) without HUTS", x.on(0), -3);
        x = Due.front("f210002 h193 p282 l371");
        long[] digests = new long[6];
        digests[0] = x.digest();
        x.winter();
        digests[1] = x.digest();
        x.feed(1);
        digests[2] = x.digest();
        x.sell(0, 2);
        digests[3] = x.digest();
        x.storm(0);
        digests[4] = x.digest();
        x.winter();
        digests[5] = x.digest();
        due.is("19 undo(6)", x.undo(6), -1);
        due.is("19 undo(-1)", x.undo(-1), -1);
        due.is("19 undo(5)", x.undo(5), 0);
        for (int n = 4; n >= 0; n--) {
            due.is("19 undo(" + n + ")", x.undo(n), 1);
            due.is("19 as it was " + n, x.digest(), digests[n]);
        }
        x.winter();
        x.feed(0);
        x.storm(2);
        due.is("20 keep(2)", x.keep(2), 3);
        due.is("20 keep(3)", x.keep(3), -1);
        due.is("20 keep(-1)", x.keep(-1), -1);
        due.is("20 count(10)", x.count(10), 1);
        long kept = x.digest();
        x.winter();
        x.winter();
        due.is("21 on(2)", x.on(2), 3);
        due.is("21 as kept", x.digest(), kept);
        due.is("21 on(0)", x.on(0), -3);
        due.is("21 NOTHING", x.finding(), 1);
        due.is("21 on(3)", x.on(3), -1);
        due.is("21 on(-1)", x.on(-1), -1);
        due.is("21 DEEDS can be undone", x.undo(1), 2);
        due.is("21 the lost one is back", x.count(4), 7);
        due.is("21 still kept", x.on(2), 3);
        x.undo(0);
        x.storm(1);
        x.winter();
        x.keep(0);
        x.undo(0);
        x.winter();
        x.winter();
        due.is("21 on(0)", x.on(0), 2);
        due.is("21 the first DEED, too", x.count(4), 5);
        x.undo(0);
        due.is("20 keep(2) anew", x.keep(2), 0);
        x.winter();
        due.is("21 on(2) anew", x.on(2), 0);
        due.is("21 WINTER", x.count(1), 0);
    }

    // Promises 22 to 25
    private static void wintersToCome() {
        HutFlock x = Due.front("f123000 h190 c081 l355");
        long before = x.digest();
        due.is("22 then(0, 0)", x.then(0, 0), 1);
        due.is("22 asked()", x.asked(), 9);
        due.is("22 then(0, 3)", x.then(0, 3), 1);
        due.is("22 asked()", x.asked(), 3);
        due.is("22 then(0, 7)", x.then(0, 7), -9);
        due.is("22 asked() still", x.asked(), 3);
        due.is("22 then(1, 1)", x.then(1, 1), 0);
        due.is("22 asked()", x.asked(), 6);
        due.is("22 then(0, 40)", x.then(0, 40), -9);
        due.is("22 then(0, 41)", x.then(0, 41), -1);
        due.is("22 then(0, -1)", x.then(0, -1), -1);
        due.is("22 then(3, 0)", x.then(3, 0), -1);
        due.is("22 then(-1, 0)", x.then(-1, 0), -1);
        due.is("23 lost(0)", x.lost(0), 7);
        due.is("23 lost(1)", x.lost(1), 3);
        due.is("23 lost(2)", x.lost(2), 3);
        due.is("23 lost(3)", x.lost(3), -1);
        due.is("23 lost(-1)", x.lost(-1), -1);
        due.is("23 never", Due.front("f000000 h100").lost(0), -9);
        due.is("23 behind 40", longLived().lost(0), 40);
        due.is("22 behind 39", longLived().then(0, 39), 1);
        due.is("25 least(0, 6)", x.least(0, 6), 0);
        due.is("25 least(0, 7)", x.least(0, 7), 3);
        due.is("25 least(0, 16)", x.least(0, 16), 15);
        due.is("25 least(0, 18)", x.least(0, 18), 18);
        due.is("25 least(0, 19)", x.least(0, 19), -9);
        due.is("25 least(0, 0)", x.least(0, 0), 0);
        due.is("25 least(0, 41)", x.least(0, 41), -1);
        due.is("25 least(0, -1)", x.least(0, -1), -1);
        due.is("25 least(3, 0)", x.least(3, 0), -1);
        due.is("22 nothing is done", x.digest(), before);
        due.is("25 by 20 just", Due.front("f900000 h170").least(0, 9), 20);
        due.is("25 not by 20", Due.front("f900000 h160").least(0, 9), -9);
        x.storm(0);
        due.is("22 lost", x.then(0, 0), -9);
        due.is("23 lost now", x.lost(0), 0);
        due.is("25 lost", x.least(0, 0), -9);
        orders();
    }

    /** It is tired by 1 in the last of each four winters: the tenth time, in the 40th, by more than it has. */
    private static HutFlock longLived() {
        return Due.front("f000100 h190");
    }

    private static void orders() {
        HutFlock x = new HutFlock();
        due.is("24 order(6)", x.order(6), -1);
        due.is("24 order(-1)", x.order(-1), -1);
        due.is("24 order(0)", x.order(0), -4);
        due.is("24 no ROW by refusal", x.count(8), 0);
        x = Due.front("f400000 p190 k280 c370 h490 g580 l699");
        x.row(0, 40);
        due.is("24 order(0)", x.order(0), 6);
        due.same("24 LATE, then STRENGTH", Due.row(x, 0), "4 3 5 1 2 0");
        x = Due.front("f400000 k150 c270 h390 l499 h590");
        due.is("24 order(5)", x.order(5), 5);
        due.same("24 STRENGTH as it is then, numbers", Due.row(x, 5), "2 3 4 0 1");
        x = Due.front("f000000 g090 g180 g270 g360 g450 p540");
        due.is("24 all six", x.order(5), 6);
        due.same("24 as they are", Due.row(x, 5), "0 1 2 3 4 5");
        x = Due.front("f500000 l190 h290 h340");
        due.is("24 who stays, who is lost", x.order(1), 1);
        due.same("24 one", Due.row(x, 1), "1");
        x.storm(1);
        due.is("24 none", x.order(1), 0);
        due.is("24 a ROW of none", x.count(8), 1);
        due.is("24 BEYOND", x.at(1, 0), -3);
        due.is("24 nothing is done", x.count(1), 0);
    }

    // Promise 26
    private static void vees() {
        HutFlock x = new HutFlock();
        due.is("26 without HUTS", x.vee(0, 0), -4);
        due.is("26 vee(5, 0)", x.vee(5, 0), -1);
        due.is("26 vee(-1, 0)", x.vee(-1, 0), -1);
        due.is("26 vee(0, 6)", x.vee(0, 6), -1);
        x = Due.front("f600000 h190 h280");
        due.is("26 vee(0, 0)", x.vee(0, 0), 108);
        due.same("26 no legs", Due.row(x, 0), "");
        due.is("26 a ROW anew", x.count(8), 1);
        due.is("26 vee(1, 0)", x.vee(1, 0), 103);
        due.same("26 one leg", Due.row(x, 0), "0");
        due.is("26 vee(2, 0)", x.vee(2, 0), 99);
        due.same("26 two legs", Due.row(x, 0), "0 1");
        due.is("26 vee(3, 0)", x.vee(3, 0), 94);
        due.same("26 three legs", Due.row(x, 0), "0 0 1");
        due.is("26 vee(4, 5)", x.vee(4, 5), 90);
        due.same("26 four legs", Due.row(x, 5), "0 0 1 1");
        x = Due.front("f900000 l190 g290");
        due.is("26 a LILAC as a HUT", x.vee(1, 0), 105);
        due.same("26 the GUARD", Due.row(x, 0), "1");
        x = Due.front("f900000 h000 h190 h290 k370");
        x.storm(0);
        due.is("26 who is lost is left out", x.vee(1, 0), 102);
        due.same("26 the CHICK", Due.row(x, 0), "3");
        x = Due.front("f500000 h190 h220");
        due.is("26 halves are cut", x.vee(1, 0), 100);
        due.same("26 the stronger one", Due.row(x, 0), "0");
        x = Due.front("f500000 p190 c260");
        due.is("26 PINKS", x.vee(2, 0), 97);
        due.same("26 of like ones the first", Due.row(x, 0), "0 0");
        x.storm(0);
        x.storm(1);
        due.is("26 none there", x.vee(0, 0), -4);
    }

    // Promise 27
    private static void bricks() {
        HutFlock x = new HutFlock();
        due.is("27 without HUTS", x.pairs(0), -4);
        due.is("27 pairs(6)", x.pairs(6), -1);
        due.is("27 pairs(-1)", x.pairs(-1), -1);
        x = Due.front("f000000 h090 h990 h190 h890");
        due.is("27 least sum", x.pairs(0), 2);
        due.is("27 far from HOMES", x.asked(), 16);
        due.same("27 BRICKS", Due.row(x, 0), "0 1 8 9");
        due.is("27 nothing is done", Due.hut(x, 1, 4), 9);
        x.storm(3);
        due.is("27 a PAIR and one", x.pairs(0), 1);
        due.is("27 far from HOMES", x.asked(), 16);
        due.same("27 the first", Due.row(x, 0), "0 1 9");
        x.storm(0);
        due.is("27 no PAIR", x.pairs(3), 0);
        due.is("27 at HOMES", x.asked(), 0);
        due.same("27 BRICKS of these", Due.row(x, 3), "9 1");
        x = Due.front("f000000 h490 h590 h390");
        due.is("27 as near", x.pairs(0), 1);
        due.is("27 nearest to HOMES", x.asked(), 0);
        due.same("27 as they are", Due.row(x, 0), "4 5 3");
        // Pairs at 0 1, 2 3, 4 5 in some order: whole pairs change with their homes, each the right way round.
        x = Due.front("f000000 h590 h490 h190 h090 h390 h290");
        x.sell(0, 5);
        due.is("27 three PAIRS", x.pairs(0), 3);
        due.is("27 far from HOMES", x.asked(), 2);
        due.same("27 BRICKS of three PAIRS", Due.row(x, 0), "2 3 1 0 4 5");
        x = Due.front("f000000 h290 h790");
        x.sell(0, 1);
        due.is("27 by HOMES, not BRICKS", x.pairs(0), 5);
        due.same("27 changed", Due.row(x, 0), "7 2");
        x.storm(0);
        x.storm(1);
        due.is("27 none there", x.pairs(0), -4);
    }

    // Promises 28, 29
    private static void kindsAndTests() {
        HutFlock x = Due.front("f000000 h090");
        due.is("28 kinds(1, 0)", x.kinds(1, 0), -1);
        due.is("28 kinds(-1, 0)", x.kinds(-1, 0), -1);
        due.is("28 kinds(0, 6)", x.kinds(0, 6), -1);
        due.is("28 kinds(0, 0)", x.kinds(0, 0), -3);
        due.is("28 NOTHING", x.finding(), 1);
        due.is("29 test(1, 0)", x.test(1, 0), -1);
        due.is("29 test(0, -1)", x.test(0, -1), -1);
        due.is("29 test(0, 0)", x.test(0, 0), -3);
        due.is("29 findings(1)", x.findings(1), 2);
        signs(x, 63, 3, 2);
        signs(x, 5, 5, 1, 0, 0, 1, 1);
        signs(x, 1, 0, 1, 5, 5);
        signs(x, 4, 0, 1, 9, 0);
        signs(x, 8, 0, 1, 9, 4);
        signs(x, 18, 0, 2, 0, 1, 9, 10);
        signs(x, 32, 0, 1, 9, 5);
        signs(x, 50, 1, 2, 0, 1);
        signs(x, 13, 5, 1, 0, 0);
        signs(x, 37, 5, 1, 1, 1);
        signs(x, 0, -9, 0, 9, 11);
        signs(x, 0, -9, 0, 4, 4, 4, 5);
        unlike(x, 3, 10, 0);
        unlike(x, 3, -1, 0);
        unlike(x, 3, 0, 12);
        unlike(x, 3, 0, -1);
        unlike(x, 3, 0, 0, 0, 12);
        unlike(x, 5, 0);
        unlike(x, 5, 99, 99, 99);
        x.storm(0);
        signs(x, 63, 3, 2);
    }

    private static void signs(HutFlock x, int kinds, int wind, int part, int... pairs) {
        layAll(x, pairs);
        String of = java.util.Arrays.toString(pairs);
        due.is("28 kinds by " + of, x.kinds(0, 2), kinds);
        x.at(3, 0);
        int was = x.asked();
        due.is("29 test by " + of, x.test(0, 2), wind);
        due.is("29 asked() by " + of, x.asked(), wind == HutFlock.NONE ? was : part);
    }

    private static void unlike(HutFlock x, int finding, int... pairs) {
        layAll(x, pairs);
        String of = java.util.Arrays.toString(pairs);
        due.is("28 kinds by " + of, x.kinds(0, 2), -3);
        due.is("28 finding by " + of, x.finding(), finding);
        due.is("29 test by " + of, x.test(0, 2), -3);
        due.is("29 finding by " + of, x.finding(), finding);
    }

    private static void layAll(HutFlock x, int... pairs) {
        x.row(3, 1);
        x.lay(3, 0, 77);
        x.row(2, pairs.length);
        for (int i = 0; i < pairs.length; i++) {
            x.lay(2, i, pairs[i]);
        }
    }

    // Promise 30
    private static void flights() {
        HutFlock x = Due.front("f000000 h090 p190 l290 g390 c490 k590");
        flight(x, 0, 0, 0, 1, 0);
        flight(x, 0, 0, 1, -9, 0);
        flight(x, 0, 1, 7, 1, 7);
        flight(x, 0, 2, 18, 1, 99);
        flight(x, 0, 2, 19, -9, 0);
        flight(x, 0, 4, 0, 1, 0);
        flight(x, 0, 4, 36, 1, 9999);
        flight(x, 0, 4, 18, 670, 99);
        flight(x, 1, 1, 0, -9, 0);
        flight(x, 1, 4, 40, 1, 9999);
        flight(x, 4, 4, 4, 1, 0);
        flight(x, 2, 1, 0, 6, 0);
        flight(x, 2, 1, 5, -9, 0);
        flight(x, 2, 2, 4, 15, 4);
        flight(x, 3, 1, 4, 2, 8);
        flight(x, 3, 2, 0, 4, 0);
        flight(x, 3, 4, 16, 16, 8888);
        flight(x, 5, 2, 2, 4, 0);
        flight(x, 5, 4, 20, 16, 8888);
        due.is("30 flown(6, 0, 0)", x.flown(6, 0, 0), -1);
        due.is("30 flown(-1, 0, 0)", x.flown(-1, 0, 0), -1);
        due.is("30 flown(0, 5, 0)", x.flown(0, 5, 0), -1);
        due.is("30 flown(0, -1, 0)", x.flown(0, -1, 0), -1);
        due.is("30 flown(0, 0, 41)", x.flown(0, 0, 41), -1);
        due.is("30 flown(0, 0, -1)", x.flown(0, 0, -1), -1);
    }

    private static void flight(HutFlock x, int i, int n, int v, int ways, int first) {
        x.row(0, 1);
        x.lay(0, 0, 55);
        x.at(0, 0);
        String call = "30 flown(" + i + ", " + n + ", " + v + ")";
        due.is(call, x.flown(i, n, v), ways);
        due.is(call + " asked()", x.asked(), ways == HutFlock.NONE ? 55 : first);
    }

    // Promise 31
    private static void duels() {
        HutFlock x = new HutFlock();
        due.is("31 without HUTS", x.duel(0), -4);
        due.is("31 duel(7)", x.duel(7), -1);
        due.is("31 duel(-1)", x.duel(-1), -1);
        x = Due.front("f000000 h030 p190 l250 g390");
        int[] leads = {100, 109, 100, 105, 102, 102, 102};
        for (int n = 0; n <= 6; n++) {
            due.is("31 duel(" + n + ")", x.duel(n), leads[n]);
        }
        x.storm(1);
        due.is("31 without one", x.duel(2), 104);
        x.storm(0);
        x.storm(2);
        x.storm(3);
        due.is("31 none there", x.duel(0), -4);
    }

    // Promises 32, 33, 36, 37
    private static void chances() {
        HutFlock x = new HutFlock();
        due.is("32 without HUTS", x.odds(0, 0), -4);
        due.is("33 without HUTS", x.mid(0), -4);
        int[][] bad = {{7, 0}, {-1, 0}, {0, 13}, {0, -1}};
        for (int[] b : bad) {
            due.is("32 odds(" + b[0] + ", " + b[1] + ")", x.odds(b[0], b[1]), -1);
        }
        due.is("33 mid(13)", x.mid(13), -1);
        due.is("33 mid(-1)", x.mid(-1), -1);
        x = Due.front("f200000 h150 g270 p320");
        odds(x, 0, 6, 1, 1);
        odds(x, 1, 6, 3, 4);
        odds(x, 2, 6, 1, 4);
        odds(x, 3, 6, 0, 1);
        odds(x, 1, 1, 143, 144);
        odds(x, 2, 1, 121, 144);
        odds(x, 2, 0, 1, 1);
        odds(x, 3, 0, 0, 1);
        odds(x, 1, 12, 0, 1);
        odds(x, 0, 12, 1, 1);
        odds(x, 6, 0, 0, 1);
        // Behind it the guard has 6, the hut 3: half of 6 and a quarter of 3.
        due.is("33 mid(6)", x.mid(6), 1);
        due.is("33 upper()", x.upper(), 15);
        due.is("33 lower()", x.lower(), 4);
        x.mid(0);
        due.is("33 mid(0) upper()", x.upper(), 6);
        due.is("33 mid(0) lower()", x.lower(), 1);
        x.mid(12);
        due.is("33 mid(12) upper()", x.upper(), 0);
        due.is("33 mid(12) lower()", x.lower(), 1);
        x.mid(6);
        x.odds(7, 0);
        x.mid(13);
        due.is("36 upper() stays by refusal", x.upper(), 15);
        due.is("37 lower() stays by refusal", x.lower(), 4);
        due.is("32 nothing is done", x.count(1), 0);
        x.storm(0);
        x.storm(1);
        x.storm(2);
        odds(x, 0, 5, 1, 1);
        odds(x, 1, 5, 0, 1);
        due.is("33 none", x.mid(5), 1);
        due.is("33 none upper()", x.upper(), 0);
        due.is("33 none lower()", x.lower(), 1);
        HutFlock stays = Due.front("f900001 l150 l250");
        stays.mid(0);
        due.is("33 who stays is there", stays.upper(), 5);
        stays.mid(6);
        due.is("33 upper() of 5 by half, 4 by a quarter", stays.upper(), 7);
        due.is("33 lower() of 5 by half, 4 by a quarter", stays.lower(), 2);
    }

    private static void odds(HutFlock x, int v, int p, long upper, long lower) {
        String call = "32 odds(" + v + ", " + p + ")";
        due.is(call, x.odds(v, p), 1);
        due.is(call + " upper()", x.upper(), upper);
        due.is(call + " lower()", x.lower(), lower);
    }

    // Promise 34
    private static void lots() {
        HutFlock x = new HutFlock();
        due.is("34 without HUTS", x.lots(1, 1), -4);
        due.is("34 lots(0, 1)", x.lots(0, 1), -1);
        due.is("34 lots(21, 1)", x.lots(21, 1), -1);
        due.is("34 lots(1, 0)", x.lots(1, 0), -1);
        due.is("34 lots(1, -1)", x.lots(1, -1), -1);
        due.is("34 lots(1, MOST)", x.lots(1, MOST), -1);
        // From 3 comes 144813, which is a multiple of 3; by 8 it is 18101.
        x = Due.front("f000005 h150 h250");
        due.is("34 lots(1, 3)", x.lots(1, 3), 2);
        due.is("34 HUT 1 is FED", Due.hut(x, 1, 2), 7);
        due.is("34 FOOD", x.count(3), 4);
        due.is("34 no WINTER", x.count(1), 0);
        // From 1 comes 48271, which is none.
        due.is("34 lots(1, 1)", x.lots(1, 1), 2);
        due.is("34 WINTER 1", x.count(1), 1);
        due.is("34 DEEDS", x.count(2), 2);
        x.storm(1);
        due.is("34 lots(1, 3), one lost", x.lots(1, 3), 1);
        due.is("34 a WINTER instead", x.count(1), 2);
        due.is("34 FOOD stays", x.count(3), 4);
        HutFlock none = Due.front("f000000 h150");
        none.lots(1, 3);
        due.is("34 no FOOD: a WINTER", none.count(1), 1);
        due.is("34 seed 2147483646", none.lots(1, MOST - 1), 1);
        HutFlock full = Due.front("f000040 h150 h250");
        due.is("34 lots(20, 9)", full.lots(20, 9), 2);
        due.is("34 lots(19, 9)", full.lots(19, 9), 2);
        long before = full.digest();
        due.is("34 FULL", full.lots(2, 9), -2);
        due.is("34 FULL changes nothing", full.digest(), before);
        due.is("34 lots(1, 9)", full.lots(1, 9), 2);
        due.is("34 DEEDS 40", full.count(2), 40);
        due.is("34 undo(0)", full.undo(0), 40);
        chain();
    }

    /** Twenty lots at once are as the same deeds by calls. */
    private static void chain() {
        HutFlock at = Due.front("f120317 h190 p281 l362 g473 c584 k655");
        HutFlock by = Due.front("f120317 h190 p281 l362 g473 c584 k655");
        due.is("34 lots(20, 77)", at.lots(20, 77) >= 0 ? 1 : 0, 1);
        long lot = 77;
        for (int d = 0; d < 20; d++) {
            lot = lot * 48271 % 2147483647;
            if (lot % 3 != 0 || by.feed((int) (lot / 8 % 6)) < 0) {
                by.winter();
            }
        }
        due.is("34 as by calls", at.digest(), by.digest());
    }

    // Promise 38
    private static void counts() {
        HutFlock x = Due.front("f520011 h150 g261 k392 l403 p984");
        due.is("38 STRENGTH of all", x.count(5), 5 + 6 + 9 + 0 + 8);
        due.is("38 GUARD 0", Due.front("f000000 g150 h260").count(7), 1);
        x.row(3, 2);
        x.text(2, 5);
        x.text(3, 5);
        x.keep(0);
        x.keep(2);
        x.winter();
        x.sell(1, 4);
        int[] want = {5, 1, 2, 10, 31, 0 + 4 + 6 + 0 + 2, 13, 2, 1, 3, 2};
        for (int what = 0; what <= 10; what++) {
            due.is("38 count(" + what + ")", x.count(what), want[what]);
        }
        due.is("38 count(11)", x.count(11), -1);
        due.is("38 count(-1)", x.count(-1), -1);
        x.storm(1);
        due.is("38 HUTS, lost ones, too", x.count(0), 5);
        due.is("38 HUTS that are there", x.count(4), 29);
        due.is("38 STRENGTH of these", x.count(5), 8);
        due.is("38 HUTS that are at their HOMES", x.count(6), 13);
        due.is("38 GUARDS, lost ones, too", x.count(7), 2);
    }

    // Promises 39, 40
    private static void findings() {
        HutFlock x = new HutFlock();
        x.row(0, -1);
        due.is("39 SIZE", x.finding(), 5);
        x.row(9, 0);
        due.is("39 BAD is none", x.finding(), 5);
        x.tear(0);
        due.is("39 NOTHING", x.finding(), 1);
        x.row(0, 0);
        x.at(0, 0);
        due.is("39 BEYOND", x.finding(), 2);
        x.mean(0);
        due.is("39 NOUGHT", x.finding(), 4);
        x.mean(0);
        x.on(0);
        due.is("40 findings(0)", x.findings(0), -1);
        due.is("40 findings(6)", x.findings(6), -1);
        due.is("40 findings(-1)", x.findings(-1), -1);
        int[] want = {2, 1, 0, 2, 1};
        for (int f = 1; f <= 5; f++) {
            due.is("40 findings(" + f + ")", x.findings(f), want[f - 1]);
        }
    }

    // Promise 41
    private static void digests() {
        int[] empty = {0, 0, 0, 0, 0, 0, 0, 0, 0, 0, 0, -1, -1, -1, -1, -1, -1, -1, -1, -1, -1, -1, -1, -1};
        due.is("41 of a new one", new HutFlock().digest(), fold(empty));
        HutFlock x = Due.front("f300001c951");
        x.storm(0);
        x.keep(1);
        x.row(4, 2);
        x.lay(4, 1, -5);
        x.put(0, 0, 200);
        x.text(3, 0);
        x.at(4, 1);
        int[] full = {1, 0, 1, 1, 0, 0, 0, 0, 1, 2, 1, 4, 9, 5, 1, -9, 4, 2, -1, 1, -1,
            -1, -1, -1, -1, 2, 0, -5, -1,
            11, -56, '3', '0', '0', '0', '0', '1', 'c', '9', '5', '1', -1, -1, 0};
        due.is("41 of a full one", x.digest(), fold(full));
        due.is("41 asked() stays", x.asked(), -5);
    }

    private static long fold(int[] all) {
        long h = 17;
        for (int v : all) {
            h = 31 * h + v;
        }
        return h;
    }
}
