/** Edges of promises 10 to 14: a FRONT and its FAULTS, KINDS, by how much a WIND TIRES them. */
public final class FrontsEdgesTest {
    private static final int NONE = HutFlock.NONE;
    private static final String LETTERS = "hplgck";
    /** Places: 0 f, 1 to 4 WINDS, 5 and 6 FOOD, 7 a blank, 8 a letter, 9 HOME, 10 STRENGTH, 11 BROWN. */
    private static final String PLAIN = "f123440 h159";
    private static final String SIX = "f123440h000p100l200g300c400k500";
    /** A row for each KIND, by WINDS 0 to 9. */
    private static final int[][] TIRES = {
        {0, 1, 2, 3, 4, 5, 6, 7, 8, 9}, {1, 2, 3, 4, 5, 6, 7, 8, 9, 10}, {0, 1, 2, 3, 4, 0, 0, 0, 0, 0},
        {0, 0, 1, 1, 2, 2, 3, 3, 4, 4}, {1, 2, 3, 4, 5, 6, 7, 8, 9, 10}, {1, 1, 2, 2, 3, 3, 4, 4, 5, 5}};
    private static final Due due = new Due();

    public static void main(String[] args) {
        everySignAtEveryPlace();
        food();
        endsTooEarly();
        blanks();
        homes();
        sevenths();
        theFirstFault();
        onePlaceToSix();
        extremes();
        anew();
        refusedLeavesAll();
        tiresByWinds();
        late();
        marksByWinds();
        cuckoosWant();
        chicksMark();
        due.end("FrontsEdgesTest");
    }

    private static void fault(String signs, int want) {
        HutFlock x = new HutFlock();
        Due.write(x, 3, signs);
        String said = "10 fault of '" + signs + "'";
        due.is(said, x.fault(3), want);
        int front = x.front(3);
        due.is("11 front of '" + signs + "'", front == HutFlock.STATE ? 1 : 0, want == NONE ? 0 : 1);
        due.is(said + " HUTS", x.count(0), want == NONE ? front : 0);
    }

    // Promise 10: "a letter, a figure that is none such .. its place; two figures .. the place of the first of both"
    private static void everySignAtEveryPlace() {
        for (int place = 0; place < PLAIN.length(); place++) {
            for (int sign = 0; sign < 256; sign++) {
                StringBuilder signs = new StringBuilder(PLAIN);
                signs.setCharAt(place, (char) sign);
                fault(signs.toString(), faultBy(place, (char) sign));
            }
        }
    }

    private static int faultBy(int place, char sign) {
        boolean figure = '0' <= sign && sign <= '9';
        boolean letter = LETTERS.indexOf(sign) >= 0;
        switch (place) {
            case 0:
                return sign == 'f' ? NONE : sign == ' ' ? 1 : 0;
            case 5:
                return '0' <= sign && sign <= '4' ? NONE : 5;
            case 6:
                return sign == '0' ? NONE : figure ? 5 : 6;
            case 7:
                return sign == ' ' ? NONE : letter ? 8 : 7;
            case 8:
                return letter ? NONE : sign == ' ' ? 9 : 8;
            default:
                return figure ? NONE : place;
        }
    }

    // "FOOD (two figures 00 .. 40)"
    private static void food() {
        for (int food = 0; food < 100; food++) {
            String signs = "f1234" + food / 10 + food % 10 + "h159";
            fault(signs, food <= 40 ? NONE : 5);
            fault("  " + signs, food <= 40 ? NONE : 7);
            if (food <= 40) {
                due.is("11 FOOD of " + signs, Due.front(signs).count(3), food);
            }
        }
    }

    // "the TEXT's size, if its end comes too early, or there is no HUT, or there are blanks alone"
    private static void endsTooEarly() {
        String whole = "f123440 h159 p260";
        for (int size = 0; size <= whole.length(); size++) {
            boolean ends = size == 12 || size == 13 || size == 17;
            fault(whole.substring(0, size), ends ? NONE : size);
            fault("   " + whole.substring(0, size), ends ? NONE : size + 3);
        }
        for (int size : new int[] {0, 1, 2, 59, 60}) {
            fault(" ".repeat(size), size);
        }
        fault("f123440" + " ".repeat(53), 60);
        fault(" ".repeat(53) + "f123440", 60);
        fault(" ".repeat(59) + "f", 60);
        fault("f123440" + " ".repeat(52) + "h", 60);
        fault("f123440" + " ".repeat(51) + "h1", 60);
        fault("f123440" + " ".repeat(50) + "h12", 60);
        fault("f123440" + " ".repeat(49) + "h123", NONE);
    }

    // "blanks (32) ahead, between, behind as many as wanted, none within items"
    private static void blanks() {
        fault(" ".repeat(60 - SIX.length()) + SIX, NONE);
        fault(SIX + " ".repeat(60 - SIX.length()), NONE);
        fault(" f123440  h000   p100 ", NONE);
        fault("f123440" + " ".repeat(29) + SIX.substring(7), NONE);
        for (int place = 1; place <= SIX.length(); place++) {
            boolean between = place >= 7 && (place - 7) % 4 == 0;
            fault(SIX.substring(0, place) + " " + SIX.substring(place), between ? NONE : place);
        }
        fault("f123440\th159", 7);
        fault("f123440" + (char) 160 + "h159", 7);
    }

    // "a HOME that another one has .. its place"
    private static void homes() {
        for (int ahead = 0; ahead < 6; ahead++) {
            for (int behind = ahead + 1; behind < 6; behind++) {
                StringBuilder signs = new StringBuilder(SIX);
                int place = 7 + 4 * behind + 1;
                signs.setCharAt(place, (char) ('0' + ahead));
                fault(signs.toString(), place);
                signs.setCharAt(place + 1, 'x');
                fault(signs.toString(), place);
                signs.setLength(place + 1);
                fault(signs.toString(), place);
            }
        }
        for (int home = 0; home <= 9; home++) {
            fault("f123440h" + home + "00" + "c" + home + "99", 12);
            fault("f123440h" + home + "00" + "c" + (home + 1) % 10 + "99", NONE);
        }
        // STRENGTH and BROWN may be as another's, and as a HOME.
        fault("f123440h111p211", NONE);
    }

    // "HUTS (1 to 6 ..)", "a seventh HUT: its place"
    private static void sevenths() {
        fault(SIX, NONE);
        for (char letter : LETTERS.toCharArray()) {
            fault(SIX + letter + "600", 31);
            fault(SIX + letter, 31);
            fault(SIX + letter + "000", 31);
            fault(SIX + letter + "x", 31);
        }
        fault(SIX + " h600", 32);
        fault(SIX + "f", 31);
        fault(SIX + "0", 31);
        fault(SIX + " ".repeat(28) + "k", 59);
        fault(" ".repeat(28) + SIX + "k", 59);
        for (int huts = 1; huts <= 6; huts++) {
            fault(SIX.substring(0, 7 + 4 * huts), NONE);
        }
    }

    private static void theFirstFault() {
        fault("x1x34x1zz", 0);
        fault("f1x3499z", 2);
        fault("f123499x", 5);
        fault("f1234x9x", 5);
        fault("f12344xx", 6);
        fault("f123440xh1z", 7);
        fault("f123440hx5y", 8);
        fault("f123440h1xy", 9);
        fault("f123440h12xx", 10);
        fault("f123440h123p12x", 12);
        fault("h123f123440", 0);
        fault("f123440f123440h123", 7);
        fault("F123440h123", 0);
        fault("f123440H123", 7);
        fault("f123440h-12", 8);
    }

    // Promise 11: "how many HUTS"
    private static void onePlaceToSix() {
        for (int t = 0; t <= 3; t++) {
            for (int huts = 1; huts <= 6; huts++) {
                HutFlock x = new HutFlock();
                Due.write(x, t, SIX.substring(0, 7 + 4 * huts));
                due.is("11 front(" + t + ")", x.front(t), huts);
                due.is("11 HUTS", x.count(0), huts);
                due.is("11 there (bits)", x.count(4), (1 << huts) - 1);
                due.is("11 at HOME (bits)", x.count(6), (1 << huts) - 1);
                due.is("12 the last HUT", Due.hut(x, huts - 1, 0), huts - 1);
                due.is("12 behind the last HUT", x.hut(huts, 0), HutFlock.BAD);
            }
        }
    }

    // Promise 12: the least and the greatest HOME, STRENGTH, BROWN
    private static void extremes() {
        HutFlock x = Due.front("f900000 h000 h999 h509 h690");
        int[][] want = {{0, 0, 0}, {9, 9, 9}, {5, 0, 9}, {6, 9, 0}};
        for (int i = 0; i < want.length; i++) {
            for (int what = 1; what <= 3; what++) {
                due.is("12 hut(" + i + ", " + what + ")", Due.hut(x, i, what), want[i][what - 1]);
            }
            due.is("12 at its HOME", Due.hut(x, i, 4), want[i][0]);
        }
        due.is("12 no WINTER yet", x.count(1), 0);
        x.storm(1);
        due.is("12 hut() of a lost one", x.hut(1, 4), 1);
        due.is("12 NONE by asked()", x.asked(), NONE);
        due.is("12 its HOME", Due.hut(x, 1, 1), 9);
        due.is("12 its STRENGTH", Due.hut(x, 1, 2), 9);
        due.is("12 its BROWN", Due.hut(x, 1, 3), 9);
        due.is("12 TIRES it", Due.hut(x, 1, 5), 9);
        due.is("12 LATE", Due.hut(x, 1, 6), 1);
    }

    // "anew: WINTER 0, all at their HOMES, no DEEDS; kept FRONTS go"
    private static void anew() {
        HutFlock x = State.READY.make();
        int asked = x.asked();
        long upper = x.upper();
        String row = Due.row(x, State.SIGNS);
        x.at(State.SIGNS, 2);
        int beyond = x.findings(2);
        due.is("11 kept FRONTS ahead of it", x.count(10), 2);
        due.is("11 front(0) again", x.front(State.FRONT_TEXT), 6);
        int[] want = {6, 0, 0, 5, 63, 9 + 8 + 6 + 7 + 5 + 4, 63, 2, 5, 3, 0};
        for (int what = 0; what <= 10; what++) {
            due.is("11 count(" + what + ") anew", x.count(what), want[what]);
        }
        due.is("11 asked() stays", x.asked(), asked);
        due.is("11 upper() stays", x.upper(), upper);
        due.is("11 findings stay", x.findings(2), beyond);
        due.same("11 ROWS stay", Due.row(x, State.SIGNS), row);
        due.is("11 undo(1)", x.undo(1), HutFlock.BAD);
        for (int k = 0; k <= 2; k++) {
            due.is("11 on(" + k + ")", x.on(k), HutFlock.FINDING);
        }
        HutFlock plain = Due.front("f215305 h190 p382 l264 g871 c059 k743");
        for (int i = 0; i < 6; i++) {
            for (int what = 0; what <= 6; what++) {
                due.is("11 hut(" + i + ", " + what + ") anew", Due.hut(x, i, what), Due.hut(plain, i, what));
            }
        }
        // The TEXT is of no use to the FRONT then.
        x.text(State.FRONT_TEXT, 0);
        due.is("11 still there", x.winter(), 6);
        due.is("11 undone without its TEXT", x.undo(0), 1);
        due.is("11 STRENGTH as at first", Due.hut(x, 0, 2), 9);
        // Fewer HUTS than ahead of it: none is left over.
        Due.write(x, 1, "f111100k777");
        due.is("11 one HUT", x.front(1), 1);
        due.is("11 hut(1, 0)", x.hut(1, 0), HutFlock.BAD);
        due.is("11 there", x.count(4), 1);
    }

    /** Faults that come late in a TEXT, when much of it has been read already. */
    private static void refusedLeavesAll() {
        for (String signs : new String[] {"", " ", "f", "f999941", "f999940", SIX + "h", "f999940h000h000", "f999900h9"}) {
            HutFlock x = State.READY.make();
            HutFlock twin = State.READY.make();
            Due.write(x, State.FRONT_TEXT, signs);
            Due.write(twin, State.FRONT_TEXT, signs);
            due.is("11 refused '" + signs + "'", x.front(State.FRONT_TEXT), HutFlock.STATE);
            due.same("11 leaves all, '" + signs + "'", Whole.of(x), Whole.of(twin));
        }
    }

    // Promises 12, 14: "A WINTER of WIND w TIRES a HUT by w .."
    private static void tiresByWinds() {
        for (int wind = 0; wind <= 9; wind++) {
            HutFlock x = Due.front("f" + wind + "00000 h090 p190 l290 g390 c490 k590");
            for (int i = 0; i < 6; i++) {
                due.is("12 hut(" + i + ", 5) by WIND " + wind, Due.hut(x, i, 5), TIRES[i][wind]);
                boolean stays = i == 2 && wind >= 5;
                due.is("14 tires(" + i + ", " + wind + ")", x.tires(i, wind), TIRES[i][wind] + (stays ? 10 : 0));
            }
        }
        // tires() goes by the WIND that it is given, hut() by the one that is due.
        HutFlock x = Due.front("f040900 l090");
        due.is("14 WIND 5, 0 is due", x.tires(0, 5), 10);
        x.winter();
        due.is("12 WIND 4 is due", Due.hut(x, 0, 5), 4);
        due.is("14 WIND 5, 4 is due", x.tires(0, 5), 10);
        due.is("14 WIND 4, 4 is due", x.tires(0, 4), 4);
        x.storm(0);
        due.is("14 of a lost one", x.tires(0, 9), 10);
    }

    private static void late() {
        HutFlock x = Due.front(SIX);
        int[] want = {1, 3, 1, 0, 2, 2};
        for (int i = 0; i < 6; i++) {
            due.is("12 hut(" + i + ", 6)", Due.hut(x, i, 6), want[i]);
        }
    }

    // Promise 13: "(perhaps below 0), and 10 more"
    private static void marksByWinds() {
        int[] guard = {10, 11, 11, 12, 12, 13, 13, 14, 14, 15};
        int[] chick = {9, 10, 10, 11, 11, 12, 12, 13, 13, 14};
        for (int wind = 0; wind <= 9; wind++) {
            HutFlock x = Due.front("f" + wind + "00000 h090 p190 l290 g390 c490 k590");
            String by = " by WIND " + wind;
            due.is("13 mark(1, 1)" + by, x.mark(1, 1), 1);
            due.is("13 mark(4, 1)" + by, x.mark(4, 1), 1);
            due.is("13 mark(2, 2)" + by, x.mark(2, 2), wind >= 5 ? 1 : 0);
            due.is("13 mark(3, 3)" + by, x.mark(3, 3), guard[wind]);
            due.is("13 mark(5, 3)" + by, x.mark(5, 3), chick[wind]);
            due.is("13 asked() stays" + by, x.asked(), 0);
        }
        HutFlock x = Due.front("f040500 l090");
        int[] stays = {0, 0, 0, 1, 0};
        for (int m = 0; m < stays.length; m++) {
            due.is("13 mark(0, 2) in WINTER " + m, x.mark(0, 2), stays[m]);
            x.winter();
        }
    }

    // "a CUCKOO at the BRICK behind it (9: 0)"
    private static void cuckoosWant() {
        for (int home = 0; home <= 9; home++) {
            int behind = home == 9 ? 0 : home + 1;
            int other = (home + 5) % 10;
            HutFlock x = Due.front("f000000 p" + other + "90 h" + behind + "90 c" + home + "90");
            due.is("13 HUT 1 is behind " + home, x.mark(2, 4), 1);
            x.storm(1);
            due.is("13 none is behind " + home, x.mark(2, 4), 10);
            x.winter();
            due.is("13 itself is behind " + home, x.mark(2, 4), 2);
            due.is("12 its BRICK", Due.hut(x, 2, 4), behind);
            due.is("12 its HOME", Due.hut(x, 2, 1), home);
            x.storm(2);
            due.is("13 lost itself", x.mark(2, 4), 10);
        }
        HutFlock x = Due.front("f000000 c290 h190 h390");
        due.is("13 at the BRICK 3", x.mark(0, 4), 2);
        x.sell(0, 1);
        due.is("13 by its HOME, 2 is its own BRICK", x.mark(0, 4), 0);
        HutFlock six = Due.front("f000000 h190 h290 h390 h490 h090 c990");
        due.is("13 HUT 4 at 0", six.mark(5, 4), 4);
        six = Due.front("f000000 c990 h290 h390 h490 h190 h090");
        due.is("13 HUT 5 at 0", six.mark(0, 4), 5);
        six = Due.front("f000000 h090 h290 h390 h490 h190 c990");
        due.is("13 HUT 0 at 0", six.mark(5, 4), 0);
    }

    // "a CHICK how many HUTS less LATE than it there are (lost ones, too)"
    private static void chicksMark() {
        due.is("13 a CHICK alone", Due.front("f000000 k090").mark(0, 5), 0);
        due.is("13 none less LATE", Due.front("f000000 k090 p190 c290 k390").mark(0, 5), 0);
        due.is("13 a HUT, a LILAC, a GUARD", Due.front("f000000 h090 p190 l290 g390 c490 k590").mark(5, 5), 3);
        HutFlock x = Due.front("f000000 k090 h190 h290 g390 g490 l590");
        due.is("13 all five", x.mark(0, 5), 5);
        for (int i = 1; i <= 5; i++) {
            x.storm(i);
            due.is("13 lost ones, too", x.mark(0, 5), 5);
        }
        x.storm(0);
        due.is("13 itself lost, too", x.mark(0, 5), 5);
    }
}
