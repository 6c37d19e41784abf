/** Edges of promises 22 to 34: WINTERS to come, a vee, bricks, what one is, by turns, chances, LOTS. */
public final class AheadEdgesTest {
    private static final int NONE = HutFlock.NONE;
    /** A row for each KIND, by WINDS 0 to 9 (one that STAYS is TIRED by 0). */
    private static final int[][] TIRES = {
        {0, 1, 2, 3, 4, 5, 6, 7, 8, 9}, {1, 2, 3, 4, 5, 6, 7, 8, 9, 10}, {0, 1, 2, 3, 4, 0, 0, 0, 0, 0},
        {0, 0, 1, 1, 2, 2, 3, 3, 4, 4}, {1, 2, 3, 4, 5, 6, 7, 8, 9, 10}, {1, 1, 2, 2, 3, 3, 4, 4, 5, 5}};
    private static final String ALL_KINDS = "f000000 h090 p190 l290 g390 c490 k590";
    private static final Due due = new Due();

    public static void main(String[] args) {
        thenByWinters();
        thenFromNow();
        lostFirst();
        leastByTwenty();
        leastOfLilacs();
        ordersAnew();
        veeOfLegs();
        veeOfOne();
        veeOfSix();
        pairsOfFew();
        pairsOfSix();
        pairsOfLikeWays();
        kindsByOnePair();
        kindsByManyPairs();
        signsOffTheEdge();
        testsByKinds();
        flownByNone();
        flownByOne();
        flownByFour();
        duelsByTurns();
        oddsOfSix();
        oddsOfFew();
        means();
        lotsOfOne();
        lotsOfForty();
        lotsThatCanNotFeed();
        due.end("AheadEdgesTest");
    }

    // Promise 22: "behind n (0 .. 40) WINTERS (NONE: lost); its STRENGTH then by asked()"
    private static void then(HutFlock x, int i, int n, int brick, int strength) {
        String call = "22 then(" + i + ", " + n + ")";
        due.is(call, x.then(i, n), brick);
        due.is(call + " asked()", x.asked(), strength);
    }

    private static void thenByWinters() {
        HutFlock x = Due.front("f000100 h190 g280 c970");
        then(x, 0, 0, 1, 9);
        then(x, 0, 3, 1, 9);
        then(x, 0, 4, 1, 8);
        then(x, 0, 36, 1, 0);
        then(x, 0, 39, 1, 0);
        due.is("22 the last one in which it is lost", x.then(0, 40), NONE);
        due.is("22 asked() stays by NONE", x.asked(), 0);
        then(x, 1, 40, 2, 8);
        due.is("22 lost earlier", x.then(0, 40), NONE);
        due.is("22 asked() stays by NONE", x.asked(), 8);
        then(x, 2, 0, 9, 7);
        then(x, 2, 1, 0, 6);
        due.is("22 a CUCKOO by the 6th", x.then(2, 7), NONE);
        then(Due.front("f000000 h000 p190"), 0, 40, 0, 0);
    }

    private static void thenFromNow() {
        HutFlock x = Due.front("f123001 h190 l255");
        x.winter();
        x.sell(0, 1);
        long before = x.digest();
        then(x, 0, 0, 1, 8);
        then(x, 0, 1, 2, 6);
        then(x, 0, 2, 2, 3);
        then(x, 0, 4, 2, 2);
        then(x, 0, 5, 2, 0);
        due.is("22 WINDS go round", x.then(0, 6), NONE);
        due.is("22 nothing is done", x.digest(), before);
        x = Due.front("f999903 l090");
        then(x, 0, 3, 0, 9);
        then(x, 0, 4, 0, 8);
        then(x, 0, 40, 0, 0);
        due.is("22 FOOD is not truly eaten", x.count(3), 3);
    }

    // Promise 23: "Behind how many WINTERS (0 .. 40) a HUT is lost first."
    private static void lostFirst() {
        due.is("23 behind 1", Due.front("f100000 h000").lost(0), 1);
        due.is("23 behind 2", Due.front("f010000 h000").lost(0), 2);
        due.is("23 behind 4", Due.front("f000100 h000").lost(0), 4);
        due.is("23 behind 36", Due.front("f000100 h080").lost(0), 36);
        due.is("23 behind 40", Due.front("f000100 h090").lost(0), 40);
        due.is("23 never", Due.front("f000000 h000").lost(0), NONE);
        due.is("23 a GUARD by WIND 1", Due.front("f111100 g000").lost(0), NONE);
        due.is("23 a LILAC that STAYS", Due.front("f999900 l000").lost(0), NONE);
        HutFlock x = Due.front("f000100 h090 h190");
        x.winter();
        due.is("23 from now on", x.lost(0), 39);
        x.storm(0);
        due.is("23 now", x.lost(0), 0);
        due.is("23 the other one", x.lost(1), 39);
        due.is("23 nothing is done", x.count(1), 1);
        due.is("23 asked() stays", x.asked(), 0);
    }

    // Promise 25: "(0 .. 20) at least .. NONE: not by 20, or it is lost"
    private static void least(String signs, int n, int want) {
        due.is("25 least(0, " + n + ") of " + signs, Due.front(signs).least(0, n), want);
    }

    private static void leastByTwenty() {
        least("f900000 h080", 0, 0);
        least("f900000 h090", 1, 0);
        least("f900000 h080", 1, 1);
        least("f900000 p000", 1, 10);
        least("f990000 p000", 2, 20);
        least("f993000 h010", 3, 20);
        least("f993000 h000", 3, NONE);
        least("f992000 h000", 3, 20);
        least("f010000 h000", 37, 9);
        least("f010000 h000", 38, 10);
        least("f010000 h000", 40, 10);
        least("f020000 h000", 38, 20);
        least("f020000 h000", 40, 20);
        least("f030000 h000", 40, NONE);
        least("f000000 h000", 40, 0);
        least("f999900 h090", 40, NONE);
        HutFlock x = Due.front("f900000 h090 h140");
        x.winter();
        due.is("25 a lost one by 0", x.least(1, 0), NONE);
        due.is("25 a lost one by 40", x.least(1, 40), NONE);
        due.is("25 by 3", x.least(0, 3), 0);
        due.is("25 by 4", x.least(0, 4), 9);
        due.is("25 nothing is done", Due.hut(x, 0, 2), 0);
        due.is("25 asked() as hut() told", x.asked(), 0);
    }

    /** Hunger takes 1 of what a LILAC has, 0 at least. */
    private static void leastOfLilacs() {
        least("f500100 l000", 3, 0);
        least("f500100 l000", 4, 2);
        least("f500101 l000", 4, 1);
        least("f500100 l090", 40, 11);
        least("f500140 l000", 40, 10);
        least("f999900 l000", 40, 0);
    }

    // Promise 24: "come to a ROW (anew)"
    private static void ordersAnew() {
        for (int r = 0; r <= 5; r++) {
            HutFlock x = Due.front(ALL_KINDS);
            due.is("24 a missing ROW " + r, x.order(r), 6);
            due.same("24 ROW " + r, Due.row(x, r), "3 0 2 4 5 1");
            due.is("24 one ROW", x.count(8), 1);
            x.row(r, 40);
            x.lay(r, 39, 7);
            due.is("24 a full ROW " + r, x.order(r), 6);
            due.same("24 ROW " + r + " anew", Due.row(x, r), "3 0 2 4 5 1");
            for (int i = 0; i < 6; i++) {
                x.storm(i);
            }
            due.is("24 none", x.order(r), 0);
            due.same("24 ROW " + r + " of none", Due.row(x, r), "");
            due.is("24 it is there", x.count(8), 1);
        }
    }

    private static void vee(HutFlock x, int n, int want, String fronts) {
        due.is("26 vee(" + n + ", 2)", x.vee(n, 2), want);
        due.same("26 fronts of " + n, Due.row(x, 2), fronts);
    }

    // Promise 26: "In n (0 .. 4) legs"; "(rising)"; "(cut)"; "(perhaps below 0), and 100 more"
    private static void veeOfLegs() {
        HutFlock x = Due.front("f700000 h190 h290");
        // In front 7, else 3 (half of 7, cut).
        vee(x, 0, 109, "");
        vee(x, 1, 102, "0");
        vee(x, 2, 99, "0 1");
        vee(x, 3, 92, "0 0 1");
        vee(x, 4, 89, "0 0 1 1");
        due.is("26 nothing is done", x.count(5), 18);
        due.is("26 asked() as at() told", x.asked(), 1);
        x = Due.front("f010000 h130 h220");
        vee(x, 4, 102, "0 0 0 0");
        x.winter();
        // By WIND 1 one is TIRED by 1 in front, by 0 else.
        vee(x, 1, 102, "0");
        vee(x, 2, 101, "0 0");
        vee(x, 3, 101, "0 0 1");
        vee(x, 4, 100, "0 0 0 1");
    }

    private static void veeOfOne() {
        vee(Due.front("f900000 p000"), 4, 60, "0 0 0 0");
        vee(Due.front("f900000 p000"), 1, 90, "0");
        vee(Due.front("f900000 p000"), 0, 100, "");
        vee(Due.front("f000000 h090"), 4, 109, "0 0 0 0");
        // A LILAC as a HUT, also by WINDS in which it would STAY.
        vee(Due.front("f400000 l090"), 2, 101, "0 0");
        vee(Due.front("f500000 l090"), 2, 99, "0 0");
        vee(Due.front("f900000 l090"), 1, 100, "0");
        // Who is not in front is TIRED by half: of 9 as a HUT 4.
        vee(Due.front("f900000 l090 g190"), 1, 105, "1");
        HutFlock x = Due.front("f900000 h000 g190 h200");
        x.storm(0);
        x.storm(2);
        vee(x, 4, 93, "1 1 1 1");
        x.storm(1);
        due.is("26 none there", x.vee(0, 2), HutFlock.STATE);
        due.same("26 the ROW stays", Due.row(x, 2), "1 1 1 1");
    }

    private static void veeOfSix() {
        HutFlock x = Due.front("f000000 h090 h190 h290 h390 h490 h590");
        vee(x, 4, 109, "0 0 0 0");
        x = Due.front("f100000 h000 h100 h200 h300 h400 h540");
        vee(x, 4, 100, "5 5 5 5");
        x = Due.front("f100000 h000 h100 h200 h300 h400 h530");
        vee(x, 4, 99, "0 1 2 3");
        vee(x, 3, 100, "5 5 5");
        x = Due.front("f100000 h000 h110 h200 h310 h400 h510");
        vee(x, 3, 100, "1 3 5");
        x.storm(3);
        vee(x, 2, 100, "1 5");
        for (int r = 0; r <= 5; r++) {
            x.row(r, 40);
            due.is("26 vee(2, " + r + ")", x.vee(2, r), 100);
            due.same("26 ROW " + r + " anew", Due.row(x, r), "1 5");
        }
    }

    private static void pairs(HutFlock x, int apart, int far, String bricks) {
        due.is("27 pairs(4)", x.pairs(4), apart);
        due.is("27 asked()", x.asked(), far);
        due.same("27 BRICKS", Due.row(x, 4), bricks);
    }

    // Promise 27: "(HUTS of number 2 k and 2 k + 1 are a PAIR, if both are there)"
    private static void pairsOfFew() {
        pairs(Due.front("f000000 h090"), 0, 0, "0");
        pairs(Due.front("f000000 h990"), 0, 0, "9");
        HutFlock x = Due.front("f000000 c990");
        x.winter();
        pairs(x, 0, 9, "0");
        pairs(Due.front("f000000 h090 h990"), 9, 0, "0 9");
        pairs(Due.front("f000000 h990 h090"), 9, 0, "9 0");
        pairs(Due.front("f000000 h490 h590"), 1, 0, "4 5");
        // A PAIR that was asked for is none any more when the other one is lost.
        x = Due.front("f000000 h490 h190");
        pairs(x, 3, 0, "4 1");
        x.storm(1);
        pairs(x, 0, 0, "4");
        // HUTS 1 and 2 are no PAIR, nor are 1 and 2 when 0 and 3 are lost.
        x = Due.front("f000000 h090 h890 h190 h990");
        pairs(x, 2, 14, "0 1 8 9");
        x.storm(0);
        pairs(x, 1, 14, "1 8 9");
        x.storm(3);
        pairs(x, 0, 0, "8 1");
        x.storm(1);
        pairs(x, 0, 0, "1");
        x.storm(2);
        due.is("27 none there", x.pairs(4), HutFlock.STATE);
        due.same("27 the ROW stays", Due.row(x, 4), "1");
    }

    private static void pairsOfSix() {
        HutFlock x = Due.front("f000000 h090 h390 h190 h490 h290 h590");
        // Three PAIRS on 0 to 5, each 1 apart: as 0 1, 2 3, 4 5 by turns; far from HOMES least as 0 1, 2 3, 4 5.
        pairs(x, 3, 6, "0 1 2 3 4 5");
        x = Due.front("f000000 h590 h490 h390 h290 h190 h090");
        pairs(x, 3, 0, "5 4 3 2 1 0");
        x.sell(0, 1);
        pairs(x, 3, 0, "4 5 3 2 1 0");
        for (int r = 0; r <= 5; r++) {
            x.row(r, 40);
            due.is("27 pairs(" + r + ")", x.pairs(r), 3);
            due.same("27 ROW " + r + " anew", Due.row(x, r), "4 5 3 2 1 0");
        }
        due.is("27 nothing is done", x.count(2), 1);
        due.is("27 BRICKS as they were", Due.hut(x, 0, 4), 5);
    }

    /** "of like ones the first (by the BRICKS of the HUTS, rising)" */
    private static void pairsOfLikeWays() {
        // HUTS 0 and 1 are at 6 and 4, with HOMES 0 and 1: 6 + 3 is as far as 4 + 5.
        HutFlock x = Due.front("f000000 h690 h490 h090 h190");
        x.sell(0, 2);
        x.sell(1, 3);
        x.storm(2);
        x.storm(3);
        pairs(x, 2, 9, "4 6");
        // HUTS 1 and 2, which are no PAIR, likewise.
        x = Due.front("f000000 h990 h690 h490 h090 h190");
        x.sell(1, 3);
        x.sell(2, 4);
        x.storm(0);
        x.storm(3);
        x.storm(4);
        pairs(x, 0, 9, "4 6");
        // PAIRS go ahead of HOMES: 2 apart, though each could be at its HOME with 12 apart.
        pairs(Due.front("f000000 h190 h790 h890 h290"), 2, 10, "1 2 8 7");
    }

    private static void lay(HutFlock x, int r, int... ints) {
        x.row(r, ints.length);
        for (int i = 0; i < ints.length; i++) {
            x.lay(r, i, ints[i]);
        }
    }

    // Promise 28: "a WIND 0 .. 9, by how much it was TIRED 0 .. 11"
    private static void kindsByOnePair() {
        for (int wind = -1; wind <= 10; wind++) {
            HutFlock x = Due.front("f000000 k090");
            for (int tired = -1; tired <= 12; tired++) {
                lay(x, 5, wind, tired);
                String call = "28 kinds by " + wind + ", " + tired;
                if (wind < 0 || wind > 9 || tired < 0 || tired > 11) {
                    due.is(call, x.kinds(0, 5), HutFlock.FINDING);
                    due.is(call + " UNLIKE", x.finding(), 3);
                    due.is("29 test by " + wind + ", " + tired, x.test(0, 5), HutFlock.FINDING);
                    continue;
                }
                int kinds = 0;
                for (int kind = 0; kind < 6; kind++) {
                    kinds |= TIRES[kind][wind] == tired ? 1 << kind : 0;
                }
                due.is(call, x.kinds(0, 5), kinds);
                due.is("29 test by " + wind + ", " + tired, x.test(0, 5) == NONE ? 1 : 0, kinds == 0 ? 1 : 0);
            }
        }
    }

    private static void kindsByManyPairs() {
        HutFlock x = Due.front(ALL_KINDS);
        x.row(3, 0);
        for (int i = 0; i < 6; i++) {
            due.is("28 all by none, of HUT " + i, x.kinds(i, 3), 63);
        }
        for (int kind = 0; kind < 6; kind++) {
            int[] signs = new int[40];
            for (int s = 0; s < 20; s++) {
                signs[2 * s] = s % 10;
                signs[2 * s + 1] = TIRES[kind][s % 10];
            }
            lay(x, 3, signs);
            boolean pink = kind == 1 || kind == 4;
            due.is("28 twenty pairs of KIND " + kind, x.kinds(0, 3), pink ? 1 << 1 | 1 << 4 : 1 << kind);
        }
        lay(x, 3, 9, 9, 9, 9);
        due.is("28 the same twice", x.kinds(0, 3), 1);
        lay(x, 3, 9, 9, 9, 10);
        due.is("28 none by both", x.kinds(0, 3), 0);
        x.storm(0);
        lay(x, 3, 5, 0);
        due.is("28 of a lost one", x.kinds(0, 3), 4);
        due.is("28 asked() as lay() told", x.asked(), 0);
    }

    // "NOTHING; SIZE; UNLIKE. (In this order.)"
    private static void signsOffTheEdge() {
        HutFlock x = Due.front(ALL_KINDS);
        for (int odd : new int[] {1, 3, 39}) {
            x.row(3, odd);
            due.is("28 kinds of " + odd, x.kinds(0, 3), HutFlock.FINDING);
            due.is("28 SIZE of " + odd, x.finding(), 5);
            x.lay(3, 0, -1);
            due.is("29 test of " + odd, x.test(0, 3), HutFlock.FINDING);
            due.is("29 SIZE ahead of UNLIKE", x.finding(), 5);
        }
        for (int place : new int[] {0, 1, 2, 38, 39}) {
            x.row(3, 40);
            due.is("28 forty noughts", x.kinds(0, 3), 1 | 4 | 8);
            for (int wrong : new int[] {-1, place % 2 == 0 ? 10 : 12, Integer.MIN_VALUE, Integer.MAX_VALUE}) {
                x.lay(3, place, wrong);
                due.is("28 " + wrong + " at " + place, x.kinds(0, 3), HutFlock.FINDING);
                due.is("28 UNLIKE", x.finding(), 3);
                due.is("29 " + wrong + " at " + place, x.test(0, 3), HutFlock.FINDING);
                due.is("29 UNLIKE", x.finding(), 3);
            }
            x.lay(3, place, place % 2 == 0 ? 9 : 11);
            due.is("28 the greatest at " + place, x.kinds(0, 3), place % 2 == 0 ? 4 : 0);
        }
        // UNLIKE, though no KIND is left by what stands ahead of it.
        lay(x, 3, 0, 11, 0, 12);
        due.is("28 UNLIKE behind no KIND", x.kinds(0, 3), HutFlock.FINDING);
        due.is("29 UNLIKE behind no KIND", x.test(0, 3), HutFlock.FINDING);
    }

    private static void told(HutFlock x, int wind, int part, int... signs) {
        lay(x, 1, signs);
        String call = "29 test by " + java.util.Arrays.toString(signs);
        due.is(call, x.test(5, 1), wind);
        due.is(call + " asked()", x.asked(), part);
    }

    // Promise 29: "the greatest part of those TIRED alike is least (the first)"
    private static void testsByKinds() {
        HutFlock x = Due.front(ALL_KINDS);
        told(x, 3, 2);
        told(x, 0, 1, 9, 9);
        told(x, 0, 1, 9, 0);
        told(x, 0, 1, 9, 5);
        // PINK and CUCKOO are never told apart.
        told(x, 0, 2, 9, 10);
        // HUT and LILAC are by WINDS of 5 or more.
        told(x, 5, 1, 4, 4);
        // HUT, LILAC, GUARD: 0 0 0, 1 1 0, .. 4 4 2, 5 0 2.
        told(x, 5, 1, 0, 0);
        // PINK, CUCKOO, CHICK: 1 1 1, 2 2 1: from WIND 1 on two are alike.
        told(x, 1, 2, 0, 1);
        // HUT, LILAC, CHICK by 1: 0 0 1, 1 1 1, .. 5 0 3.
        told(x, 5, 1, 1, 1);
        lay(x, 1, 0, 11);
        x.row(2, 1);
        x.lay(2, 0, 55);
        x.at(2, 0);
        due.is("29 no KIND", x.test(0, 1), NONE);
        due.is("29 asked() stays by NONE", x.asked(), 55);
        due.is("29 NONE is no FINDING", x.finding(), 0);
    }

    private static void flown(HutFlock x, int i, int n, int v, int ways, int first) {
        x.row(0, 1);
        x.lay(0, 0, 77);
        x.at(0, 0);
        String call = "30 flown(" + i + ", " + n + ", " + v + ")";
        due.is(call, x.flown(i, n, v), ways);
        due.is(call + " asked()", x.asked(), ways == NONE ? 77 : first);
    }

    // Promise 30: "rows of n (0 .. 4) WINDS .. that TIRE a HUT by v (0 .. 40) together"
    private static void flownByNone() {
        HutFlock x = Due.front(ALL_KINDS);
        for (int i = 0; i < 6; i++) {
            flown(x, i, 0, 0, 1, 0);
            flown(x, i, 0, 1, NONE, 0);
            flown(x, i, 0, 40, NONE, 0);
        }
    }

    private static void flownByOne() {
        for (int i = 0; i < 6; i++) {
            HutFlock x = Due.front(ALL_KINDS);
            for (int v = 0; v <= 11; v++) {
                int ways = 0;
                int first = NONE;
                for (int wind = 9; wind >= 0; wind--) {
                    ways += TIRES[i][wind] == v ? 1 : 0;
                    first = TIRES[i][wind] == v ? wind : first;
                }
                flown(x, i, 1, v, ways == 0 ? NONE : ways, first);
            }
        }
    }

    private static void flownByFour() {
        HutFlock x = Due.front(ALL_KINDS);
        flown(x, 0, 4, 0, 1, 0);
        flown(x, 0, 4, 1, 4, 1);
        flown(x, 0, 4, 35, 4, 8999);
        flown(x, 0, 4, 36, 1, 9999);
        flown(x, 0, 4, 37, NONE, 0);
        flown(x, 0, 4, 40, NONE, 0);
        flown(x, 1, 4, 3, NONE, 0);
        flown(x, 1, 4, 4, 1, 0);
        flown(x, 1, 4, 39, 4, 8999);
        flown(x, 1, 4, 40, 1, 9999);
        flown(x, 4, 4, 40, 1, 9999);
        flown(x, 2, 4, 0, 1296, 0);
        flown(x, 2, 4, 1, 4 * 216, 1);
        flown(x, 2, 4, 16, 1, 4444);
        flown(x, 2, 4, 17, NONE, 0);
        flown(x, 3, 4, 0, 16, 0);
        flown(x, 3, 4, 16, 16, 8888);
        flown(x, 3, 4, 17, NONE, 0);
        flown(x, 5, 4, 3, NONE, 0);
        flown(x, 5, 4, 4, 16, 0);
        flown(x, 5, 4, 20, 16, 8888);
        flown(x, 5, 4, 21, NONE, 0);
        flown(x, 0, 2, 10, 9, 19);
        flown(x, 0, 3, 27, 1, 999);
        flown(x, 0, 3, 28, NONE, 0);
        // "(STRENGTH aside)", and a lost one has flown, too.
        HutFlock weak = Due.front("f000000 h000");
        weak.storm(0);
        flown(weak, 0, 4, 36, 1, 9999);
    }

    // Promise 31: "By n (0 .. 6) turns"; "(none left: nobody lures)"
    private static void duelsByTurns() {
        duels("f000000 h030 p190 l250 g380 c470 k500", 100, 109, 101, 108, 103, 106, 106);
        duels("f000000 h090 h190 h290 h390 h490 h590", 100, 109, 100, 109, 100, 109, 100);
        duels("f000000 h000 h100", 100, 100, 100, 100, 100, 100, 100);
        duels("f000000 h090", 100, 109, 109, 109, 109, 109, 109);
        duels("f000000 h010 h190", 100, 109, 108, 108, 108, 108, 108);
        HutFlock x = Due.front("f000000 h090 h180 h230");
        x.storm(1);
        due.is("31 a lost one is not lured", x.duel(2), 106);
        due.is("31 nothing is done", x.count(4), 5);
        due.is("31 asked() stays", x.asked(), 0);
    }

    private static void duels(String signs, int... leads) {
        HutFlock x = Due.front(signs);
        for (int n = 0; n <= 6; n++) {
            due.is("31 duel(" + n + ") of " + signs, x.duel(n), leads[n]);
        }
    }

    private static void odds(HutFlock x, int v, int p, long upper, long lower) {
        String call = "32 odds(" + v + ", " + p + ")";
        due.is(call, x.odds(v, p), 1);
        due.is(call + " upper()", x.upper(), upper);
        due.is(call + " lower()", x.lower(), lower);
    }

    // Promise 32: "v (0 .. 6) or more", "p (0 .. 12) of 12"; "in lowest terms .. (0 by 1)"
    private static void oddsOfSix() {
        HutFlock x = Due.front("f000000 h090 h190 h290 h390 h490 h590");
        for (int v = 0; v <= 6; v++) {
            odds(x, v, 0, 1, 1);
            odds(x, v, 12, v == 0 ? 1 : 0, 1);
        }
        odds(x, 0, 1, 1, 1);
        odds(x, 0, 11, 1, 1);
        odds(x, 6, 1, 1771561, 2985984);
        odds(x, 6, 11, 1, 2985984);
        odds(x, 1, 1, 2985983, 2985984);
        odds(x, 1, 11, 1214423, 2985984);
        odds(x, 6, 6, 1, 64);
        odds(x, 5, 6, 7, 64);
        odds(x, 3, 6, 21, 32);
        odds(x, 1, 6, 63, 64);
        due.is("32 nothing is done", x.count(1), 0);
        due.is("32 asked() stays", x.asked(), 0);
    }

    private static void oddsOfFew() {
        // Of HUTS that the WINTER loses storms take none.
        HutFlock x = Due.front("f300000 h020 h130 p230 g310");
        odds(x, 0, 0, 1, 1);
        odds(x, 2, 0, 1, 1);
        odds(x, 3, 0, 0, 1);
        odds(x, 6, 0, 0, 1);
        odds(x, 2, 4, 4, 9);
        odds(x, 1, 4, 8, 9);
        odds(x, 2, 12, 0, 1);
        x.storm(1);
        odds(x, 1, 4, 2, 3);
        odds(x, 2, 4, 0, 1);
        x.storm(3);
        odds(x, 0, 4, 1, 1);
        odds(x, 1, 4, 0, 1);
        x.storm(0);
        x.storm(2);
        odds(x, 0, 12, 1, 1);
        odds(x, 6, 12, 0, 1);
    }

    private static void mid(HutFlock x, int p, long upper, long lower) {
        due.is("33 mid(" + p + ")", x.mid(p), 1);
        due.is("33 mid(" + p + ") upper()", x.upper(), upper);
        due.is("33 mid(" + p + ") lower()", x.lower(), lower);
    }

    // Promise 33: "The mean of the greatest STRENGTH of these then (0: none)"
    private static void means() {
        HutFlock six = Due.front("f000000 h090 h190 h290 h390 h490 h590");
        mid(six, 0, 9, 1);
        mid(six, 12, 0, 1);
        mid(six, 11, 1214423, 331776);
        mid(six, 6, 567, 64);
        mid(Due.front("f000000 h000"), 0, 0, 1);
        mid(Due.front("f000000 h000"), 6, 0, 1);
        mid(Due.front("f000000 h090"), 6, 9, 2);
        mid(Due.front("f000000 h090"), 1, 33, 4);
        mid(Due.front("f000000 h010"), 11, 1, 12);
        mid(Due.front("f900000 h090"), 1, 0, 1);
        HutFlock x = Due.front("f300000 h020 h150");
        // Behind it HUT 1 alone is there, by 2.
        mid(x, 0, 2, 1);
        mid(x, 3, 3, 2);
        x.storm(1);
        mid(x, 3, 0, 1);
        x.storm(0);
        mid(x, 0, 0, 1);
        due.is("33 nothing is done", x.count(1), 0);
        // Now HUT 0 is the stronger one, by 9; behind it the GUARD is, by 6, and HUT 0 has 5.
        HutFlock turned = Due.front("f400000 h090 g180");
        mid(turned, 0, 6, 1);
        mid(turned, 6, 17, 4);
    }

    // Promise 34: "the first from the seed (1 .. 2147483646)"
    private static void lotsOfOne() {
        // From 1 comes 48271, which is no multiple of 3.
        HutFlock x = Due.front("f000040 h000 h100 h200 h300 h400 h500");
        due.is("34 seed 1", x.lots(1, 1), 6);
        due.is("34 a WINTER", x.count(1), 1);
        due.is("34 no FOOD eaten", x.count(3), 40);
        due.is("34 a DEED", x.count(2), 1);
        // From 2147483646 comes 2147435376, a multiple of 3; by 8 it is 268429422.
        int[] who = {0, 0, 0, 2, 2, 0};
        // From 3 comes 144813; by 8 it is 18101.
        int[] whoByThree = {0, 1, 2, 1, 1, 5};
        for (int huts = 1; huts <= 6; huts++) {
            String signs = "f000001 h000 h100 h200 h300 h400 h500".substring(0, 7 + 5 * huts);
            x = Due.front(signs);
            due.is("34 seed 2147483646", x.lots(1, Integer.MAX_VALUE - 1), huts);
            due.is("34 FED by the greatest seed of " + huts, Due.hut(x, who[huts - 1], 2), 2);
            due.is("34 the last FOOD", x.count(3), 0);
            due.is("34 no WINTER", x.count(1), 0);
            x = Due.front(signs);
            x.lots(1, 3);
            due.is("34 FED by seed 3 of " + huts, Due.hut(x, whoByThree[huts - 1], 2), 2);
            due.is("34 no other", x.count(5), 2);
        }
    }

    // "FULL: with n more there would be more than 40 DEEDS"
    private static void lotsOfForty() {
        HutFlock x = Due.front("f000000 h090");
        due.is("34 lots(20, 7)", x.lots(20, 7), 1);
        due.is("34 twenty DEEDS", x.count(2), 20);
        due.is("34 lots(20, 7) again", x.lots(20, 7), 1);
        due.is("34 forty DEEDS", x.count(2), 40);
        due.is("34 lots(1, 7)", x.lots(1, 7), HutFlock.FULL);
        for (int there = 21; there <= 39; there++) {
            x.undo(0);
            x.lots(20, 5);
            x.lots(there - 20, 5);
            int room = 40 - there;
            due.is("34 one too many beside " + there, x.lots(room + 1, 5), HutFlock.FULL);
            due.is("34 none of it is done", x.count(2), there);
            due.is("34 just so many", x.lots(room, 5), 1);
            due.is("34 forty", x.count(2), 40);
            due.is("34 WINTERS", x.count(1), 40);
        }
    }

    // "is FED, if it can be, else (or if it can not be) a WINTER passes"
    private static void lotsThatCanNotFeed() {
        HutFlock x = Due.front("f100000 h090 h190");
        due.is("34 without FOOD", x.lots(1, 3), 2);
        due.is("34 a WINTER instead", x.count(1), 1);
        due.is("34 TIRED by it", x.count(5), 16);
        // Of two HUTS seed 3 means HUT 1, lost or not.
        x = Due.front("f100040 h090 h190");
        x.storm(1);
        due.is("34 a lost one", x.lots(1, 3), 1);
        due.is("34 a WINTER instead", x.count(1), 1);
        due.is("34 FOOD stays", x.count(3), 40);
        x.storm(0);
        due.is("34 when all are lost", x.lots(20, 3), 0);
        due.is("34 WINTERS alone", x.count(1), 21);
        due.is("34 FOOD stays", x.count(3), 40);
        // A HUT of 9 can be FED, too.
        x = Due.front("f000001 h090");
        x.lots(1, 3);
        due.is("34 FED at 9", x.count(3), 0);
        due.is("34 no WINTER", x.count(1), 0);
    }
}
