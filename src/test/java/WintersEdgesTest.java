/** Edges of promises 15 to 21: how a WINTER passes, DEEDS (40 at most), undone, kept. */
public final class WintersEdgesTest {
    private static final Due due = new Due();

    public static void main(String[] args) {
        atFirst();
        windsGoRound();
        staysByFive();
        fedByTheLastFood();
        strengthNoughtStays();
        justStrongEnough();
        onlyJustLost();
        brownByNine();
        orderOfComingBack();
        landsWhereItWants();
        nearestFree();
        nearestAtTheEnds();
        nearestToEach();
        cuckoosGoRound();
        bricksOfThoseWhoGo();
        fedInSummer();
        sold();
        stormed();
        fortyDeeds();
        undone();
        undoneOneByOne();
        keptInPlaces();
        keptByValue();
        keptOfForty();
        due.end("WintersEdgesTest");
    }

    // "WINTER 0 is due at first, each HUT is at its HOME, none is lost."
    private static void atFirst() {
        HutFlock x = Due.front("f123440 h909 c018 l527");
        due.is("15 WINTER 0", x.count(1), 0);
        due.is("15 none is lost", x.count(4), 7);
        due.is("15 all at HOME, the CUCKOO, too", x.count(6), 7);
        due.is("15 no DEEDS", x.count(2), 0);
    }

    // "WINTER m (0, 1, ..) has the WIND of number m by 4 left over."
    private static void windsGoRound() {
        int[] winds = {1, 9, 0, 7};
        HutFlock x = Due.front("f190700 h090");
        for (int m = 0; m < 40; m++) {
            due.is("15 WINTER " + m, x.count(1), m);
            due.is("15 its WIND", Due.hut(x, 0, 5), winds[m % 4]);
            due.is("15 winter()", x.winter(), m == 0 ? 1 : 0);
        }
        due.is("15 WINTER 40 is due", x.count(1), 40);
        due.is("15 its WIND is the first", Due.hut(x, 0, 5), 1);
    }

    // "A LILAC STAYS, if w is 5 or more (it TIRES by nothing), all others go."
    private static void staysByFive() {
        HutFlock x = Due.front("f400009 l040");
        due.is("15 WIND 4: it goes", x.winter(), 1);
        due.is("15 TIRED by 4", Due.hut(x, 0, 2), 0);
        due.is("15 BROWN 1", Due.hut(x, 0, 3), 1);
        due.is("15 FOOD stays", x.count(3), 9);
        for (int wind = 5; wind <= 9; wind++) {
            x = Due.front("f" + wind + "00009 l040");
            due.is("15 WIND " + wind + ": it STAYS", x.winter(), 1);
            due.is("15 TIRED by nothing", Due.hut(x, 0, 2), 4);
            due.is("15 not BROWN", Due.hut(x, 0, 3), 0);
            due.is("15 FOOD 1 less", x.count(3), 8);
            x = Due.front("f" + wind + "00009 h090 p190 g290 c390 k490");
            x.winter();
            due.is("15 FOOD is for those who STAY", x.count(3), 9);
        }
    }

    // "FED: FOOD is 1 less, if there is any, else STRENGTH 1 less"
    private static void fedByTheLastFood() {
        for (int food = 0; food <= 6; food++) {
            HutFlock x = Due.front("f50000" + food + " l090 l190 l290 l390 l490 l590");
            due.is("15 all STAY", x.winter(), 6);
            due.is("15 FOOD left", x.count(3), 0);
            for (int i = 0; i < 6; i++) {
                due.is("15 FOOD " + food + ", HUT " + i, Due.hut(x, i, 2), i < food ? 9 : 8);
            }
        }
        HutFlock x = Due.front("f500007 l090 l190 l290 l390 l490 l590");
        x.winter();
        due.is("15 one FOOD left", x.count(3), 1);
        due.is("15 all have STRENGTH", x.count(5), 54);
        // A lost one is not FED, and one that goes is not, either.
        x = Due.front("f500001 l090 h190 l290");
        x.storm(0);
        x.winter();
        due.is("15 FOOD for the third", Due.hut(x, 2, 2), 9);
        due.is("15 FOOD spent", x.count(3), 0);
        due.is("15 STRENGTH of the lost one", Due.hut(x, 0, 2), 9);
    }

    // "(0 at least)"
    private static void strengthNoughtStays() {
        HutFlock x = Due.front("f999900 l020");
        int[] want = {1, 0, 0, 0};
        for (int m = 0; m < want.length; m++) {
            due.is("15 it is there", x.winter(), 1);
            due.is("15 STRENGTH", Due.hut(x, 0, 2), want[m]);
            due.is("15 at its BRICK", Due.hut(x, 0, 4), 0);
        }
    }

    /** For each KIND: the WIND, by how much that TIRES it. */
    private static final String[] KIND_WINDS = {"h9", "p8", "l4", "g9", "c8", "k9", "h1", "p0", "l1", "g2", "c0", "k0"};
    private static final int[] TIRED = {9, 9, 4, 4, 9, 5, 1, 1, 1, 1, 1, 1};

    // "if it TIRES by more than its STRENGTH it is lost, else STRENGTH is so much less"
    private static void justStrongEnough() {
        for (int c = 0; c < TIRED.length; c++) {
            HutFlock x = Due.front("f" + KIND_WINDS[c].charAt(1) + "00000 " + KIND_WINDS[c].charAt(0) + "5" + TIRED[c] + "3");
            due.is("15 just strong enough, " + KIND_WINDS[c], x.winter(), 1);
            due.is("15 STRENGTH 0, " + KIND_WINDS[c], Due.hut(x, 0, 2), 0);
            due.is("15 BROWN 4, " + KIND_WINDS[c], Due.hut(x, 0, 3), 4);
        }
        HutFlock x = Due.front("f000000 h100 l200 g300");
        due.is("15 nothing to tire them", x.winter(), 3);
        x = Due.front("f100000 g100");
        due.is("15 half of 1 is 0", x.winter(), 1);
    }

    private static void onlyJustLost() {
        for (int c = 0; c < TIRED.length; c++) {
            int strength = TIRED[c] - 1;
            HutFlock x = Due.front("f" + KIND_WINDS[c].charAt(1) + "00000 " + KIND_WINDS[c].charAt(0) + "5" + strength + "3");
            due.is("15 just not strong enough, " + KIND_WINDS[c], x.winter(), 0);
            due.is("15 lost, " + KIND_WINDS[c], Due.hut(x, 0, 4), HutFlock.NONE);
            due.is("15 STRENGTH stays, " + KIND_WINDS[c], Due.hut(x, 0, 2), strength);
            due.is("15 BROWN stays, " + KIND_WINDS[c], Due.hut(x, 0, 3), 3);
            due.is("15 HOME stays, " + KIND_WINDS[c], Due.hut(x, 0, 1), 5);
            due.is("15 lost for ever, " + KIND_WINDS[c], x.winter(), 0);
            due.is("15 the WINTER passes, " + KIND_WINDS[c], x.count(1), 2);
        }
        HutFlock x = Due.front("f900000 p090");
        due.is("15 a PINK of 9 by WIND 9", x.winter(), 0);
    }

    // "BROWN is 1 more (9 at most)"
    private static void brownByNine() {
        HutFlock x = Due.front("f000000 h090 h197 h298 h399");
        int[][] want = {{1, 8, 9, 9}, {2, 9, 9, 9}, {3, 9, 9, 9}};
        for (int m = 0; m < want.length; m++) {
            x.winter();
            for (int i = 0; i < 4; i++) {
                due.is("15 BROWN of HUT " + i + " behind " + (m + 1), Due.hut(x, i, 3), want[m][i]);
            }
        }
    }

    // "those less LATE first, of like ones those of more STRENGTH (as it is then), of like ones by numbers"
    private static void orderOfComingBack() {
        order("f000000 p090 c190 k290 h390 l490 g500", "5 3 4 1 2 0");
        order("f000000 g000 h190 k290 p390", "0 1 2 3");
        order("f000000 c190 k290", "0 1");
        order("f000000 k290 c190", "0 1");
        // A CUCKOO is TIRED by 5, a CHICK by 3: 9 and 7 are alike then, 9 and 8 are not.
        order("f400000 c190 k270", "0 1");
        order("f400000 c190 k280", "1 0");
        order("f400000 k270 c190", "0 1");
        order("f000000 h050 l160 h270 l380 h490", "4 3 2 1 0");
        order("f000000 h090 l190 h290 l390 h490 l590", "0 1 2 3 4 5");
        // Who STAYS and who is lost does not come back.
        order("f500000 l090 h140 h250", "2");
        order("f500000 l090 h140", "");
    }

    private static void order(String signs, String want) {
        HutFlock x = Due.front(signs);
        int many = x.order(2);
        due.same("24 order of " + signs, Due.row(x, 2), want);
        due.is("24 how many of " + signs, many, (want.length() + 1) / 2);
        due.is("24 no WINTER has passed", x.count(1), 0);
    }

    private static void lands(String call, HutFlock x, String want) {
        StringBuilder got = new StringBuilder();
        for (int i = 0; i < x.count(0); i++) {
            got.append(i == 0 ? "" : " ").append(Due.hut(x, i, 4));
        }
        due.same(call, got.toString(), want);
    }

    // "each lands at the BRICK that it WANTS, if no HUT is there"
    private static void landsWhereItWants() {
        HutFlock x = Due.front("f000000 h090 p990 l490 g590");
        x.winter();
        lands("15 each at its HOME", x, "0 9 4 5");
        x.sell(0, 1);
        x.sell(2, 3);
        lands("15 homes sold, BRICKS as they were", x, "0 9 4 5");
        x.winter();
        lands("15 each at its new HOME", x, "9 0 5 4");
        // Who comes earlier has the BRICK: a CUCKOO wants 5; a HUT is less LATE, a PINK more.
        x = Due.front("f000000 c490 h590");
        x.winter();
        lands("15 the HUT was earlier", x, "4 5");
        x = Due.front("f000000 c490 p590");
        x.winter();
        lands("15 the CUCKOO was earlier", x, "5 4");
        x = Due.front("f000000 c490 p590 g390");
        x.winter();
        lands("15 the PINK finds 4 free", x, "5 4 3");
    }

    // "else at the free one nearest to that (of like ones the lesser)"
    private static void nearestFree() {
        HutFlock x = Due.front("f500040 l590 h290");
        x.sell(0, 1);
        x.winter();
        lands("15 4 and 6 are as near: the lesser", x, "5 4");
        x = Due.front("f500040 l590 l490 h290");
        x.sell(0, 2);
        x.winter();
        lands("15 6 is nearer than 3", x, "5 4 6");
        x = Due.front("f500040 l590 l490 l690 h290");
        x.sell(0, 3);
        x.winter();
        lands("15 3 and 7 are as near: the lesser", x, "5 4 6 3");
        x = Due.front("f500040 l590 l490 l690 l390 h290");
        x.sell(0, 4);
        x.winter();
        lands("15 7 is nearer than 2", x, "5 4 6 3 7");
        x = Due.front("f500040 l590 l490 l690 l390 l790 h090");
        x.sell(0, 5);
        x.winter();
        lands("15 2 and 8 are as near: the lesser", x, "5 4 6 3 7 2");
        x = Due.front("f500040 l590 h490 h690 h290");
        x.sell(0, 3);
        x.winter();
        lands("15 those come by their numbers", x, "5 4 6 3");
    }

    private static void nearestAtTheEnds() {
        HutFlock x = Due.front("f500040 l090 h990");
        x.sell(0, 1);
        x.winter();
        lands("15 beside 0 is 1, not 9", x, "0 1");
        x = Due.front("f500040 l990 h090");
        x.sell(0, 1);
        x.winter();
        lands("15 beside 9 is 8, not 0", x, "9 8");
        x = Due.front("f500040 l090 l190 l290 l390 l490 h990");
        x.sell(0, 5);
        x.winter();
        lands("15 0 to 4 are taken", x, "0 1 2 3 4 5");
        x = Due.front("f500040 l990 l890 l790 l690 l590 h090");
        x.sell(0, 5);
        x.winter();
        lands("15 9 to 5 are taken", x, "9 8 7 6 5 4");
        x = Due.front("f500040 l190 l090 l290 l390 h990");
        x.sell(0, 4);
        x.winter();
        lands("15 none lesser is free", x, "1 0 2 3 4");
        x = Due.front("f500040 l890 l990 l790 l690 h090");
        x.sell(0, 4);
        x.winter();
        lands("15 none greater is free", x, "8 9 7 6 5");
    }

    /** By one LILAC, and by three side by side, that STAY where a HUT WANTS to land. */
    private static void nearestToEach() {
        for (int place = 0; place <= 9; place++) {
            int other = (place + 5) % 10;
            HutFlock x = Due.front("f500040 l" + place + "90 h" + other + "90");
            x.sell(0, 1);
            x.winter();
            due.is("15 beside " + place, Due.hut(x, 1, 4), place == 0 ? 1 : place - 1);
            if (place == 0 || place == 9) {
                continue;
            }
            x = Due.front("f500040 l" + place + "90 l" + (place - 1) + "90 l" + (place + 1) + "90 h" + other + "90");
            x.sell(0, 3);
            x.winter();
            due.is("15 two from " + place, Due.hut(x, 3, 4), place == 1 ? 3 : place - 2);
        }
    }

    // "a CUCKOO at the BRICK behind it (9: 0)"
    private static void cuckoosGoRound() {
        for (int home = 0; home <= 9; home++) {
            HutFlock x = Due.front("f000000 c" + home + "90");
            x.winter();
            lands("15 a CUCKOO of " + home, x, home == 9 ? "0" : String.valueOf(home + 1));
            x.winter();
            lands("15 and again", x, home == 9 ? "0" : String.valueOf(home + 1));
        }
        HutFlock x = Due.front("f000000 c990 h090");
        x.winter();
        lands("15 beside 0 is 1, though 9 is its HOME", x, "1 0");
        x = Due.front("f000000 c890 h990");
        x.winter();
        lands("15 beside 9 is 8", x, "8 9");
    }

    private static void bricksOfThoseWhoGo() {
        HutFlock x = Due.front("f000000 h090 h190 h290");
        x.sell(0, 1);
        x.sell(1, 2);
        x.winter();
        lands("15 all have gone ahead of the first who lands", x, "1 2 0");
        // The BRICK of one that is lost is free.
        x = Due.front("f100000 c490 h500");
        x.winter();
        lands("15 the lost one has left 5", x, "5 -9");
        x = Due.front("f000000 c490 h590");
        x.storm(1);
        x.winter();
        lands("15 the stormed one has left 5", x, "5 -9");
    }

    // Promise 16: "FOOD 1 less, STRENGTH 2 more, 9 at most"
    private static void fedInSummer() {
        for (int strength = 0; strength <= 9; strength++) {
            for (char letter : "hplgck".toCharArray()) {
                HutFlock x = Due.front("f000002 " + letter + "0" + strength + "7");
                int want = strength > 7 ? 9 : strength + 2;
                due.is("16 feed() of " + strength, x.feed(0), want);
                due.is("16 STRENGTH", Due.hut(x, 0, 2), want);
                due.is("16 BROWN stays", Due.hut(x, 0, 3), 7);
                due.is("16 FOOD", x.count(3), 1);
                due.is("16 a DEED", x.count(2), 1);
                due.is("16 no WINTER", x.count(1), 0);
            }
        }
        HutFlock x = Due.front("f000002 h090");
        due.is("16 of 9 is 9", x.feed(0), 9);
        due.is("16 the last FOOD", x.feed(0), 9);
        due.is("16 none is left", x.count(3), 0);
        due.is("16 SPENT", x.feed(0), HutFlock.SPENT);
        due.is("16 undone", x.undo(1), 1);
        due.is("16 one again", x.feed(0), 9);
        x = Due.front("f000040 h000 h100 h200 h300 h400 h500");
        due.is("16 the first HUT", x.feed(0), 2);
        due.is("16 the last HUT", x.feed(5), 2);
        due.is("16 no other", x.count(5), 4);
    }

    // Promise 17
    private static void sold() {
        HutFlock x = Due.front("f000000 h090 p190 l290 g390 c490 k990");
        due.is("17 sell(0, 5)", x.sell(0, 5), 9);
        due.is("17 the other's HOME", Due.hut(x, 5, 1), 0);
        due.is("17 its own", Due.hut(x, 0, 1), 9);
        due.is("17 neither is at HOME", x.count(6), 0b011110);
        due.is("17 sell(5, 0)", x.sell(5, 0), 9);
        due.is("17 both are at HOME", x.count(6), 0b111111);
        due.is("17 two DEEDS", x.count(2), 2);
        due.is("17 sell(2, 3)", x.sell(2, 3), 3);
        due.is("17 sell(3, 4)", x.sell(3, 4), 4);
        lands("17 BRICKS stay", x, "0 1 2 3 4 9");
        due.is("17 HOMES stay ten", Due.hut(x, 4, 1), 2);
        x.storm(0);
        due.is("17 of a lost one", x.sell(0, 1), HutFlock.STATE);
        x.undo(4);
        due.is("17 undone, it is there", x.sell(0, 1), 1);
    }

    // Promise 18
    private static void stormed() {
        HutFlock x = Due.front("f000040 h090 p190 l290 g390 c490 k990");
        int[] takes = {5, 0, 3, 2, 4, 1};
        int there = 63;
        for (int s = 0; s < takes.length; s++) {
            there &= ~(1 << takes[s]);
            due.is("18 storm(" + takes[s] + ")", x.storm(takes[s]), 5 - s);
            due.is("18 who is there", x.count(4), there);
            due.is("18 who is at HOME", x.count(6), there);
            due.is("18 a DEED", x.count(2), s + 1);
        }
        due.is("18 no STRENGTH", x.count(5), 0);
        due.is("18 HUTS", x.count(0), 6);
        due.is("18 a WINTER without any", x.winter(), 0);
        due.is("18 FOOD stays", x.count(3), 40);
        due.is("18 order without any", x.order(0), 0);
        due.is("18 undone", x.undo(5), 2);
        due.is("18 one is there", x.count(4), 2);
    }

    // "These are DEEDS (40 at most)."
    private static void fortyDeeds() {
        String signs = "f000040 h090 p190 g290 h390";
        for (int deed = 0; deed < 5; deed++) {
            HutFlock x = Due.front(signs);
            for (int d = 0; d < 39; d++) {
                due.is("15 DEED " + d, act(x, d % 2) >= 0 ? 1 : 0, 1);
            }
            due.is("15 DEEDS", x.count(2), 39);
            due.is("34 lots(2, 1) beside 39", x.lots(2, 1), HutFlock.FULL);
            due.is("15 the 40th, " + deed, act(x, deed) >= 0 ? 1 : 0, 1);
            due.is("15 DEEDS", x.count(2), 40);
            for (int more = 0; more < 5; more++) {
                // FULL comes last: a storm that has taken its HUT already is refused for that.
                boolean takenAlready = deed == 2 && more == 2;
                due.is("15 the 41st, " + more, act(x, more), takenAlready ? HutFlock.STATE : HutFlock.FULL);
            }
            due.is("15 DEEDS still", x.count(2), 40);
            due.is("19 undo(39)", x.undo(39), 1);
            due.is("15 room again", act(x, deed) >= 0 ? 1 : 0, 1);
            due.is("15 FULL again", act(x, 0), HutFlock.FULL);
            due.is("19 all undone", x.undo(0), 40);
            due.is("15 as at first", Due.hut(x, 0, 2), 9);
        }
    }

    private static int act(HutFlock x, int deed) {
        switch (deed) {
            case 0:
                return x.sell(0, 2);
            case 1:
                return x.feed(0);
            case 2:
                return x.storm(3);
            case 3:
                return x.lots(1, 1);
            default:
                return x.winter();
        }
    }

    // Promise 19: "DEEDS from number n on are undone: how many."
    private static void undone() {
        for (int n = 0; n <= 5; n++) {
            HutFlock x = Due.front("f210002 h193 p282 l371");
            HutFlock fewer = Due.front("f210002 h193 p282 l371");
            some(x, 5);
            some(fewer, n);
            due.is("19 undo(" + n + ")", x.undo(n), 5 - n);
            due.is("19 DEEDS left", x.count(2), n);
            due.same("19 as if never done, " + n, Whole.untold(x), Whole.untold(fewer));
        }
        HutFlock x = new HutFlock();
        due.is("19 undo(0) at first", x.undo(0), 0);
        x = Due.front("f210002 h193");
        due.is("19 undo(0) without DEEDS", x.undo(0), 0);
        due.is("19 undo(1) without DEEDS", x.undo(1), HutFlock.BAD);
        x.winter();
        due.is("19 undo(2) by one", x.undo(2), HutFlock.BAD);
        due.is("19 undo(1) by one", x.undo(1), 0);
        due.is("19 undo(0) by one", x.undo(0), 1);
    }

    private static void some(HutFlock x, int deeds) {
        for (int d = 0; d < deeds; d++) {
            switch (d) {
                case 0:
                    x.winter();
                    break;
                case 1:
                    x.feed(1);
                    break;
                case 2:
                    x.sell(0, 2);
                    break;
                case 3:
                    x.storm(0);
                    break;
                default:
                    x.winter();
                    break;
            }
        }
    }

    private static void undoneOneByOne() {
        HutFlock x = Due.front("f120320 h190 p281 l362 g473 c584 k655");
        x.lots(20, 12345);
        x.lots(20, 54321);
        HutFlock twin = Due.front("f120320 h190 p281 l362 g473 c584 k655");
        long lot = 12345;
        long[] digests = new long[21];
        digests[0] = twin.digest();
        for (int d = 0; d < 20; d++) {
            lot = lot * 48271 % 2147483647;
            if (lot % 3 != 0 || twin.feed((int) (lot / 8 % 6)) < 0) {
                twin.winter();
            }
            digests[d + 1] = twin.digest();
        }
        due.is("19 undo(20)", x.undo(20), 20);
        for (int n = 19; n >= 0; n--) {
            due.is("19 undo(" + n + ")", x.undo(n), 1);
            due.is("19 as it was behind " + n, x.digest(), digests[n]);
        }
    }

    // Promises 20, 21: "in a place (0 .. 2)"
    private static void keptInPlaces() {
        for (int k = 0; k <= 2; k++) {
            HutFlock x = Due.front("f110009 h190 p281");
            due.is("20 keep(" + k + ") without DEEDS", x.keep(k), 0);
            due.is("20 one is kept", x.count(10), 1);
            for (int o = 0; o <= 2; o++) {
                due.is("21 on(" + o + ")", x.on(o), o == k ? 0 : HutFlock.FINDING);
            }
            x.winter();
            due.is("20 keep(" + k + ") anew", x.keep(k), 1);
            due.is("20 still one", x.count(10), 1);
            x.winter();
            due.is("21 on(" + k + ")", x.on(k), 1);
            due.is("21 WINTER 1", x.count(1), 1);
            due.is("20 keep is no DEED", x.count(2), 1);
        }
        HutFlock x = Due.front("f110009 h190 p281");
        for (int k = 0; k <= 2; k++) {
            due.is("20 keep(" + k + ")", x.keep(k), k);
            due.is("20 kept FRONTS", x.count(10), k + 1);
            x.feed(1);
        }
        for (int k = 2; k >= 0; k--) {
            due.is("21 on(" + k + ")", x.on(k), k);
            due.is("21 FOOD", x.count(3), 9 - k);
            due.is("21 still kept", x.count(10), 3);
        }
        due.is("21 on, from fewer to more DEEDS", x.on(2), 2);
        due.is("21 undone one by one", x.undo(1), 1);
        due.is("21 FOOD", x.count(3), 8);
    }

    private static void keptByValue() {
        HutFlock x = Due.front("f110009 h190 p281");
        x.storm(0);
        x.keep(1);
        x.undo(0);
        x.feed(1);
        x.sell(0, 1);
        due.is("21 on(1)", x.on(1), 1);
        due.is("21 its own DEED, not the one that came instead", x.count(4), 2);
        x.undo(0);
        x.winter();
        x.winter();
        due.is("21 on(1) again", x.on(1), 1);
        due.is("21 lost again", x.count(4), 2);
        x.feed(1);
        due.is("21 gone on from", x.count(2), 2);
        due.is("21 on(1) as it was", x.on(1), 1);
        due.is("21 FOOD as it was", x.count(3), 9);
        due.is("20 kept when all are lost", x.storm(1), 0);
        due.is("20 keep(0)", x.keep(0), 2);
        x.undo(0);
        due.is("21 on(0)", x.on(0), 2);
        due.is("21 none is there", x.count(4), 0);
    }

    private static void keptOfForty() {
        HutFlock x = Due.front("f000040 h090");
        for (int d = 0; d < 40; d++) {
            x.feed(0);
        }
        due.is("20 keep(2) of 40 DEEDS", x.keep(2), 40);
        due.is("19 undo(0)", x.undo(0), 40);
        due.is("15 room", x.winter(), 1);
        due.is("21 on(2)", x.on(2), 40);
        due.is("15 FULL again", x.winter(), HutFlock.FULL);
        due.is("21 no FOOD again", x.count(3), 0);
        due.is("21 WINTER 0 again", x.count(1), 0);
    }
}
