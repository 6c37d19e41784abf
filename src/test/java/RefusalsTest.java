import java.util.function.ToLongFunction;

/**
 * "Refused is, the first of these that fits": each way in which a call is refused, by the first numbers on either side
 * that are, with what it answers, which FINDING it leaves, that nothing else changes, and what goes ahead of what.
 */
public final class RefusalsTest {
    private static final int LEAST = Integer.MIN_VALUE, MOST = Integer.MAX_VALUE;
    private static final int BAD = -1, FULL = -2, FINDING = -3, STATE = -4, SPENT = -6;
    private static final int NOTHING = 1, BEYOND = 2, UNLIKE = 3, NOUGHT = 4, SIZE = 5;
    private static final State[] WITHOUT_HUTS = {State.BARE, State.UNSETTLED};
    private static final State[] NONE_THERE = {State.BARE, State.UNSETTLED, State.GONE};
    private static final State[] FURNISHED = {State.UNSETTLED, State.READY, State.SPENT, State.FULL, State.GONE};
    private static final Due due = new Due();

    public static void main(String[] args) {
        rows();
        copies();
        texts();
        fronts();
        ofHuts();
        marks();
        winters();
        feeds();
        sales();
        storms();
        undoings();
        keptFronts();
        wintersToCome();
        vees();
        signs();
        flights();
        duelsAndChances();
        lots();
        countsAndFindings();
        due.end("RefusalsTest");
    }

    /** The first numbers on either side of those that are taken, and the farthest ones. */
    private static int[] off(int low, int high) {
        return new int[] {LEAST, low - 1, high + 1, MOST};
    }

    private static void refused(State state, String call, ToLongFunction<HutFlock> made, int answer, int finding) {
        String said = call + " in " + state;
        HutFlock x = state.make();
        HutFlock twin = state.make();
        due.is(said, made.applyAsLong(x), answer);
        due.is(said + " finding()", x.finding(), answer == FINDING ? finding : twin.finding());
        for (int f = NOTHING; f <= SIZE; f++) {
            int more = answer == FINDING && f == finding ? 1 : 0;
            due.is(said + " findings(" + f + ")", x.findings(f), twin.findings(f) + more);
        }
        due.is(said + " asked()", x.asked(), twin.asked());
        due.is(said + " upper()", x.upper(), twin.upper());
        due.is(said + " lower()", x.lower(), twin.lower());
        due.same(said + " changes nothing", Whole.untold(x), Whole.untold(twin));
    }

    private static void refused(State[] states, String call, ToLongFunction<HutFlock> made, int answer) {
        for (State state : states) {
            refused(state, call, made, answer, 0);
        }
    }

    private static void found(State[] states, String call, ToLongFunction<HutFlock> made, int finding) {
        for (State state : states) {
            refused(state, call, made, FINDING, finding);
        }
    }

    /** BAD in every state, so BAD also goes ahead of FULL, STATE, SPENT and of every FINDING that fits. */
    private static void bad(String call, ToLongFunction<HutFlock> made) {
        refused(State.values(), call, made, BAD);
    }

    // Promises 2, 3, 4, 5, 7
    private static void rows() {
        for (int r : off(0, 5)) {
            bad("2 row(" + r + ", 1)", x -> x.row(r, 1));
            bad("2 row(" + r + ", -1), BAD ahead of SIZE", x -> x.row(r, -1));
            bad("3 lay(" + r + ", 0, 1)", x -> x.lay(r, 0, 1));
            bad("3 lay(" + r + ", -1, 1)", x -> x.lay(r, -1, 1));
            bad("4 at(" + r + ", 0)", x -> x.at(r, 0));
            bad("4 at(" + r + ", -1)", x -> x.at(r, -1));
            bad("5 tear(" + r + ")", x -> x.tear(r));
            bad("7 mean(" + r + ")", x -> x.mean(r));
        }
        for (int r = 0; r <= 5; r++) {
            int row = r;
            bad("2 row(" + r + ", 41)", x -> x.row(row, 41));
            bad("2 row(" + r + ", MOST)", x -> x.row(row, MOST));
            found(State.values(), "2 row(" + r + ", -1)", x -> x.row(row, -1), SIZE);
            found(State.values(), "2 row(" + r + ", LEAST)", x -> x.row(row, LEAST), SIZE);
            refused(State.BARE, "3 lay(" + r + ", 0, 1)", x -> x.lay(row, 0, 1), FINDING, NOTHING);
            refused(State.BARE, "4 at(" + r + ", 0)", x -> x.at(row, 0), FINDING, NOTHING);
            refused(State.BARE, "5 tear(" + r + ")", x -> x.tear(row), FINDING, NOTHING);
            refused(State.BARE, "7 mean(" + r + ")", x -> x.mean(row), FINDING, NOTHING);
        }
        found(FURNISHED, "3 lay() of a missing ROW", x -> x.lay(State.MISSING, 0, 1), NOTHING);
        found(FURNISHED, "4 at() of a missing ROW", x -> x.at(State.MISSING, 0), NOTHING);
        found(FURNISHED, "5 tear() of a missing ROW", x -> x.tear(State.MISSING), NOTHING);
        found(FURNISHED, "7 mean() of a missing ROW", x -> x.mean(State.MISSING), NOTHING);
        found(FURNISHED, "7 mean() of none", x -> x.mean(State.EMPTY), NOUGHT);
        places(State.SIGNS, 4);
        places(State.EMPTY, 0);
        places(State.WHOLE, 40);
    }

    private static void places(int r, int size) {
        for (int i : off(0, size - 1)) {
            found(FURNISHED, "3 lay(" + r + ", " + i + ", 1)", x -> x.lay(r, i, 1), BEYOND);
            found(FURNISHED, "4 at(" + r + ", " + i + ")", x -> x.at(r, i), BEYOND);
            found(FURNISHED, "3 lay(), NOTHING ahead of BEYOND", x -> x.lay(State.MISSING, i, 1), NOTHING);
            found(FURNISHED, "4 at(), NOTHING ahead of BEYOND", x -> x.at(State.MISSING, i), NOTHING);
        }
    }

    // Promise 6
    private static void copies() {
        int signs = State.SIGNS, empty = State.EMPTY, missing = State.MISSING, whole = State.WHOLE;
        for (int r : off(0, 5)) {
            bad("6 copy(" + r + ", 0, 0, 0, 0)", x -> x.copy(r, 0, signs, 0, 0));
            bad("6 copy(0, 0, " + r + ", 0, 0)", x -> x.copy(signs, 0, r, 0, 0));
            bad("6 copy() from " + r + ", BAD ahead of SIZE", x -> x.copy(r, 0, signs, 0, -1));
            bad("6 copy() to " + r + ", BAD ahead of SIZE", x -> x.copy(signs, 0, r, 0, -1));
            bad("6 copy() to " + r + ", BAD ahead of NOTHING", x -> x.copy(missing, 0, r, 0, 1));
            bad("6 copy() from " + r + ", BAD ahead of BEYOND", x -> x.copy(r, -1, signs, 99, 1));
        }
        for (int n : new int[] {-1, LEAST}) {
            found(State.values(), "6 copy() of " + n, x -> x.copy(signs, 0, signs, 0, n), SIZE);
            found(State.values(), "6 copy(), SIZE ahead of NOTHING", x -> x.copy(missing, 0, missing, 0, n), SIZE);
            found(State.values(), "6 copy(), SIZE ahead of BEYOND", x -> x.copy(signs, 5, signs, -1, n), SIZE);
        }
        found(FURNISHED, "6 copy() from a missing ROW", x -> x.copy(missing, 0, signs, 0, 1), NOTHING);
        found(FURNISHED, "6 copy() to a missing ROW", x -> x.copy(signs, 0, missing, 0, 1), NOTHING);
        found(FURNISHED, "6 copy() of 0 from a missing ROW", x -> x.copy(missing, 0, signs, 0, 0), NOTHING);
        found(FURNISHED, "6 copy() of 0 to a missing ROW", x -> x.copy(signs, 0, missing, 0, 0), NOTHING);
        found(FURNISHED, "6 copy(), NOTHING ahead of BEYOND", x -> x.copy(missing, -1, signs, 5, 9), NOTHING);
        found(FURNISHED, "6 copy(), NOTHING ahead of BEYOND", x -> x.copy(signs, 5, missing, -1, 9), NOTHING);
        int[][] beyond = {
            {signs, -1, whole, 0, 1}, {signs, 4, whole, 0, 1}, {signs, 0, whole, 0, 5}, {signs, 1, whole, 0, 4},
            {whole, 0, signs, -1, 1}, {whole, 0, signs, 4, 1}, {whole, 0, signs, 0, 5}, {whole, 0, signs, 1, 4},
            {signs, -1, signs, 0, 0}, {signs, 0, signs, -1, 0}, {signs, 5, signs, 0, 0}, {signs, 0, signs, 5, 0},
            {empty, 0, signs, 0, 1}, {signs, 0, empty, 0, 1}, {whole, 0, whole, 0, 41}, {whole, 1, whole, 0, 40},
            {whole, 0, whole, 1, 40}, {signs, MOST, whole, 0, 1}, {whole, 0, signs, MOST, 1},
            {signs, LEAST, whole, 0, 4}, {whole, 0, signs, LEAST, 4}, {signs, 1, whole, 1, MOST},
            {signs, MOST, whole, MOST, MOST}, {signs, LEAST, whole, LEAST, MOST}, {signs, 0, signs, 1, 4}};
        for (int[] b : beyond) {
            found(FURNISHED, "6 copy" + java.util.Arrays.toString(b), x -> x.copy(b[0], b[1], b[2], b[3], b[4]), BEYOND);
        }
    }

    // Promises 8, 9
    private static void texts() {
        for (int t : off(0, 3)) {
            bad("8 text(" + t + ", 1)", x -> x.text(t, 1));
            bad("8 text(" + t + ", -1), BAD ahead of SIZE", x -> x.text(t, -1));
            bad("9 put(" + t + ", 0, 1)", x -> x.put(t, 0, 1));
            bad("9 put(" + t + ", -1, 1)", x -> x.put(t, -1, 1));
        }
        for (int t = 0; t <= 3; t++) {
            int text = t;
            bad("8 text(" + t + ", 61)", x -> x.text(text, 61));
            bad("8 text(" + t + ", MOST)", x -> x.text(text, MOST));
            found(State.values(), "8 text(" + t + ", -1)", x -> x.text(text, -1), SIZE);
            found(State.values(), "8 text(" + t + ", LEAST)", x -> x.text(text, LEAST), SIZE);
            refused(State.BARE, "9 put(" + t + ", 0, 1)", x -> x.put(text, 0, 1), FINDING, NOTHING);
        }
        for (int i : off(0, 4)) {
            found(FURNISHED, "9 put(3, " + i + ", 1)", x -> x.put(State.FAULTY_TEXT, i, 1), BEYOND);
            found(FURNISHED, "9 put(), NOTHING ahead of BEYOND", x -> x.put(State.MISSING_TEXT, i, 1), NOTHING);
        }
        found(FURNISHED, "9 put() of no bytes", x -> x.put(State.EMPTY_TEXT, 0, 1), BEYOND);
        found(FURNISHED, "9 put() of a missing TEXT", x -> x.put(State.MISSING_TEXT, 0, 1), NOTHING);
    }

    // Promises 10, 11
    private static void fronts() {
        for (int t : off(0, 3)) {
            bad("10 fault(" + t + ")", x -> x.fault(t));
            bad("11 front(" + t + ")", x -> x.front(t));
        }
        for (int t = 0; t <= 3; t++) {
            int text = t;
            refused(State.BARE, "10 fault(" + t + ")", x -> x.fault(text), FINDING, NOTHING);
            refused(State.BARE, "11 front(" + t + ")", x -> x.front(text), FINDING, NOTHING);
        }
        found(FURNISHED, "10 fault() of a missing TEXT", x -> x.fault(State.MISSING_TEXT), NOTHING);
        found(FURNISHED, "11 front() of a missing TEXT", x -> x.front(State.MISSING_TEXT), NOTHING);
        refused(FURNISHED, "11 front() by a FAULT", x -> x.front(State.FAULTY_TEXT), STATE);
        refused(FURNISHED, "11 front() of no bytes", x -> x.front(State.EMPTY_TEXT), STATE);
        // What fault() answers is no refusal, but it changes nothing, either.
        for (State state : FURNISHED) {
            refused(state, "10 fault(3)", x -> x.fault(State.FAULTY_TEXT), 5, 0);
            refused(state, "10 fault(2)", x -> x.fault(State.EMPTY_TEXT), 0, 0);
        }
        refused(State.READY, "10 fault(0)", x -> x.fault(State.FRONT_TEXT), -9, 0);
    }

    /** Numbers that are no HUT: READY has six HUTS, SPENT three, GONE two, BARE and UNSETTLED none. */
    private static void noHut(String call, HutCall made) {
        for (int i : off(0, 5)) {
            bad(call + " of " + i, x -> made.on(x, i));
        }
        refused(State.SPENT, call + " of 3", x -> made.on(x, 3), BAD, 0);
        refused(State.FULL, call + " of 4", x -> made.on(x, 4), BAD, 0);
        refused(State.FULL_SPENT, call + " of 4", x -> made.on(x, 4), BAD, 0);
        refused(State.GONE, call + " of 2", x -> made.on(x, 2), BAD, 0);
        refused(WITHOUT_HUTS, call + " of 0", x -> made.on(x, 0), BAD);
    }

    private interface HutCall {
        long on(HutFlock x, int i);
    }

    // Promises 12, 14
    private static void ofHuts() {
        noHut("12 hut()", (x, i) -> x.hut(i, 0));
        noHut("14 tires()", (x, i) -> x.tires(i, 0));
        for (int what : off(0, 6)) {
            bad("12 hut(0, " + what + ")", x -> x.hut(0, what));
            bad("12 hut(5, " + what + ")", x -> x.hut(5, what));
        }
        for (int wind : off(0, 9)) {
            bad("14 tires(0, " + wind + ")", x -> x.tires(0, wind));
            bad("14 tires(5, " + wind + ")", x -> x.tires(5, wind));
        }
    }

    // Promise 13
    private static void marks() {
        noHut("13 mark()", (x, i) -> x.mark(i, 1));
        for (int i = 0; i < 6; i++) {
            int hut = i;
            // KIND 0, too, though each HUT IS one.
            for (int kind : off(1, 5)) {
                bad("13 mark(" + i + ", " + kind + ")", x -> x.mark(hut, kind));
            }
        }
        // Which KINDS the HUTS of READY (0 HUT, 1 PINK, 2 LILAC, 3 GUARD, 4 CUCKOO, 5 CHICK) are of, besides 0.
        int[] kinds = {0, 1 << 1, 1 << 2, 1 << 3, 1 << 1 | 1 << 4, 1 << 3 | 1 << 5};
        for (int i = 0; i < 6; i++) {
            for (int kind = 1; kind <= 5; kind++) {
                int hut = i;
                int other = kind;
                String call = "13 mark(" + i + ", " + kind + ")";
                if ((kinds[i] >> kind & 1) == 0) {
                    refused(State.READY, call, x -> x.mark(hut, other), FINDING, UNLIKE);
                } else {
                    due.is(call + " is told", State.READY.make().mark(hut, other) >= 0 ? 1 : 0, 1);
                }
            }
        }
    }

    // Promise 15
    private static void winters() {
        refused(WITHOUT_HUTS, "15 winter()", x -> x.winter(), STATE);
        refused(State.FULL, "15 winter()", x -> x.winter(), FULL, 0);
        refused(State.FULL_SPENT, "15 winter()", x -> x.winter(), FULL, 0);
        due.is("15 winter() when all are lost", State.GONE.make().winter(), 0);
    }

    // Promise 16
    private static void feeds() {
        noHut("16 feed()", (x, i) -> x.feed(i));
        refused(State.READY, "16 feed(5)", x -> x.feed(5), STATE, 0);
        refused(State.GONE, "16 feed(0)", x -> x.feed(0), STATE, 0);
        refused(State.SPENT, "16 feed(0)", x -> x.feed(0), SPENT, 0);
        refused(State.FULL, "16 feed(0)", x -> x.feed(0), FULL, 0);
        refused(State.SPENT, "16 feed(2), STATE ahead of SPENT", x -> x.feed(2), STATE, 0);
        refused(State.FULL, "16 feed(3), STATE ahead of FULL", x -> x.feed(3), STATE, 0);
        refused(State.FULL_SPENT, "16 feed(0), SPENT ahead of FULL", x -> x.feed(0), SPENT, 0);
        refused(State.FULL_SPENT, "16 feed(3), STATE ahead of SPENT, FULL", x -> x.feed(3), STATE, 0);
    }

    // Promise 17
    private static void sales() {
        noHut("17 sell() of the first", (x, i) -> x.sell(i, 1));
        noHut("17 sell() of the second", (x, i) -> x.sell(0, i));
        noHut("17 sell() of both", (x, i) -> x.sell(i, i));
        for (int i = 0; i < 6; i++) {
            int hut = i;
            bad("17 sell(" + i + ", " + i + ")", x -> x.sell(hut, hut));
        }
        State[] lastLost = {State.READY, State.SPENT, State.FULL, State.FULL_SPENT};
        for (State state : lastLost) {
            refused(state, "17 sell() to a lost one", x -> x.sell(0, x.count(0) - 1), STATE, 0);
            refused(state, "17 sell() of a lost one", x -> x.sell(x.count(0) - 1, 0), STATE, 0);
        }
        refused(State.GONE, "17 sell() of lost ones", x -> x.sell(0, 1), STATE, 0);
        refused(State.FULL, "17 sell(0, 1)", x -> x.sell(0, 1), FULL, 0);
        refused(State.FULL_SPENT, "17 sell(1, 2)", x -> x.sell(1, 2), FULL, 0);
    }

    // Promise 18
    private static void storms() {
        noHut("18 storm()", (x, i) -> x.storm(i));
        refused(State.READY, "18 storm(5)", x -> x.storm(5), STATE, 0);
        refused(State.GONE, "18 storm(1)", x -> x.storm(1), STATE, 0);
        refused(State.FULL, "18 storm(0)", x -> x.storm(0), FULL, 0);
        refused(State.FULL, "18 storm(3), STATE ahead of FULL", x -> x.storm(3), STATE, 0);
    }

    // Promise 19
    private static void undoings() {
        for (int n : off(0, 40)) {
            bad("19 undo(" + n + ")", x -> x.undo(n));
        }
        refused(WITHOUT_HUTS, "19 undo(1)", x -> x.undo(1), BAD);
        refused(State.READY, "19 undo(5)", x -> x.undo(5), BAD, 0);
        refused(State.SPENT, "19 undo(3)", x -> x.undo(3), BAD, 0);
        // What undoes nothing is taken.
        refused(WITHOUT_HUTS, "19 undo(0)", x -> x.undo(0), 0);
        refused(State.READY, "19 undo(4)", x -> x.undo(4), 0, 0);
        refused(State.FULL, "19 undo(40)", x -> x.undo(40), 0, 0);
    }

    // Promises 20, 21
    private static void keptFronts() {
        for (int k : off(0, 2)) {
            bad("20 keep(" + k + ")", x -> x.keep(k));
            bad("21 on(" + k + ")", x -> x.on(k));
        }
        for (int k = 0; k <= 2; k++) {
            int place = k;
            refused(WITHOUT_HUTS, "20 keep(" + k + ")", x -> x.keep(place), STATE);
            found(NONE_THERE, "21 on(" + k + ")", x -> x.on(place), NOTHING);
        }
        refused(State.READY, "21 on(1)", x -> x.on(1), FINDING, NOTHING);
        refused(State.FULL, "21 on(0)", x -> x.on(0), FINDING, NOTHING);
        refused(State.FULL, "21 on(2)", x -> x.on(2), FINDING, NOTHING);
    }

    // Promises 22, 23, 24, 25
    private static void wintersToCome() {
        noHut("22 then()", (x, i) -> x.then(i, 0));
        noHut("23 lost()", (x, i) -> x.lost(i));
        noHut("25 least()", (x, i) -> x.least(i, 0));
        for (int n : off(0, 40)) {
            bad("22 then(0, " + n + ")", x -> x.then(0, n));
            bad("25 least(0, " + n + ")", x -> x.least(0, n));
        }
        for (int r : off(0, 5)) {
            bad("24 order(" + r + ")", x -> x.order(r));
        }
        for (int r = 0; r <= 5; r++) {
            int row = r;
            refused(WITHOUT_HUTS, "24 order(" + r + ")", x -> x.order(row), STATE);
        }
        // NONE is no refusal, but it changes nothing, either; nor do answers that tell nothing by asked().
        refused(State.READY, "22 then(5, 0)", x -> x.then(5, 0), -9, 0);
        refused(State.READY, "22 then(0, 40)", x -> x.then(0, 40), -9, 0);
        refused(State.READY, "23 lost(5)", x -> x.lost(5), 0, 0);
        refused(State.SPENT, "23 lost(0)", x -> x.lost(0), -9, 0);
        refused(State.READY, "25 least(5, 0)", x -> x.least(5, 0), -9, 0);
        refused(State.READY, "25 least(0, 40)", x -> x.least(0, 40), -9, 0);
        refused(State.SPENT, "25 least(0, 40)", x -> x.least(0, 40), 0, 0);
    }

    // Promises 26, 27
    private static void vees() {
        for (int r : off(0, 5)) {
            bad("26 vee(0, " + r + ")", x -> x.vee(0, r));
            bad("27 pairs(" + r + ")", x -> x.pairs(r));
        }
        for (int n : off(0, 4)) {
            bad("26 vee(" + n + ", 0)", x -> x.vee(n, 0));
        }
        for (int r = 0; r <= 5; r++) {
            int row = r;
            refused(NONE_THERE, "26 vee(0, " + r + ")", x -> x.vee(0, row), STATE);
            refused(NONE_THERE, "26 vee(4, " + r + ")", x -> x.vee(4, row), STATE);
            refused(NONE_THERE, "27 pairs(" + r + ")", x -> x.pairs(row), STATE);
        }
    }

    // Promises 28, 29
    private static void signs() {
        noHut("28 kinds()", (x, i) -> x.kinds(i, State.SIGNS));
        noHut("28 kinds(), BAD ahead of NOTHING", (x, i) -> x.kinds(i, State.MISSING));
        noHut("28 kinds(), BAD ahead of SIZE", (x, i) -> x.kinds(i, State.ODD));
        noHut("28 kinds(), BAD ahead of UNLIKE", (x, i) -> x.kinds(i, State.WRONG));
        noHut("29 test()", (x, i) -> x.test(i, State.SIGNS));
        noHut("29 test(), BAD ahead of NOTHING", (x, i) -> x.test(i, State.MISSING));
        noHut("29 test(), BAD ahead of SIZE", (x, i) -> x.test(i, State.ODD));
        noHut("29 test(), BAD ahead of UNLIKE", (x, i) -> x.test(i, State.WRONG));
        for (int r : off(0, 5)) {
            bad("28 kinds(0, " + r + ")", x -> x.kinds(0, r));
            bad("29 test(0, " + r + ")", x -> x.test(0, r));
        }
        State[] withHuts = {State.READY, State.SPENT, State.FULL, State.GONE};
        found(withHuts, "28 kinds() of a missing ROW", x -> x.kinds(0, State.MISSING), NOTHING);
        found(withHuts, "28 kinds(), SIZE ahead of UNLIKE", x -> x.kinds(0, State.ODD), SIZE);
        found(withHuts, "28 kinds() of a WIND 10", x -> x.kinds(0, State.WRONG), UNLIKE);
        found(withHuts, "29 test() of a missing ROW", x -> x.test(0, State.MISSING), NOTHING);
        found(withHuts, "29 test(), SIZE ahead of UNLIKE", x -> x.test(0, State.ODD), SIZE);
        found(withHuts, "29 test() of a WIND 10", x -> x.test(0, State.WRONG), UNLIKE);
    }

    // Promise 30
    private static void flights() {
        noHut("30 flown()", (x, i) -> x.flown(i, 0, 0));
        for (int n : off(0, 4)) {
            bad("30 flown(0, " + n + ", 0)", x -> x.flown(0, n, 0));
        }
        for (int v : off(0, 40)) {
            bad("30 flown(0, 0, " + v + ")", x -> x.flown(0, 0, v));
            bad("30 flown(0, 4, " + v + ")", x -> x.flown(0, 4, v));
        }
        refused(State.READY, "30 flown(0, 0, 1)", x -> x.flown(0, 0, 1), -9, 0);
        refused(State.READY, "30 flown(0, 4, 37)", x -> x.flown(0, 4, 37), -9, 0);
    }

    // Promises 31, 32, 33
    private static void duelsAndChances() {
        for (int n : off(0, 6)) {
            bad("31 duel(" + n + ")", x -> x.duel(n));
            bad("32 odds(" + n + ", 0)", x -> x.odds(n, 0));
        }
        for (int p : off(0, 12)) {
            bad("32 odds(0, " + p + ")", x -> x.odds(0, p));
            bad("33 mid(" + p + ")", x -> x.mid(p));
        }
        refused(NONE_THERE, "31 duel(0)", x -> x.duel(0), STATE);
        refused(NONE_THERE, "31 duel(6)", x -> x.duel(6), STATE);
        refused(WITHOUT_HUTS, "32 odds(0, 0)", x -> x.odds(0, 0), STATE);
        refused(WITHOUT_HUTS, "32 odds(6, 12)", x -> x.odds(6, 12), STATE);
        refused(WITHOUT_HUTS, "33 mid(0)", x -> x.mid(0), STATE);
        refused(WITHOUT_HUTS, "33 mid(12)", x -> x.mid(12), STATE);
        due.is("32 odds() when all are lost", State.GONE.make().odds(0, 0), 1);
        due.is("33 mid() when all are lost", State.GONE.make().mid(0), 1);
    }

    // Promise 34
    private static void lots() {
        for (int n : off(1, 20)) {
            bad("34 lots(" + n + ", 1)", x -> x.lots(n, 1));
        }
        for (int seed : new int[] {LEAST, -1, 0, MOST}) {
            bad("34 lots(1, " + seed + ")", x -> x.lots(1, seed));
            bad("34 lots(20, " + seed + ")", x -> x.lots(20, seed));
        }
        refused(WITHOUT_HUTS, "34 lots(1, 1)", x -> x.lots(1, 1), STATE);
        refused(WITHOUT_HUTS, "34 lots(20, 2147483646)", x -> x.lots(20, MOST - 1), STATE);
        State[] full = {State.FULL, State.FULL_SPENT};
        refused(full, "34 lots(1, 1)", x -> x.lots(1, 1), FULL);
        refused(full, "34 lots(20, 2147483646)", x -> x.lots(20, MOST - 1), FULL);
        due.is("34 lots() when all are lost", State.GONE.make().lots(1, 1), 0);
    }

    // Promises 38, 40
    private static void countsAndFindings() {
        for (int what : off(0, 10)) {
            bad("38 count(" + what + ")", x -> x.count(what));
        }
        for (int f : off(1, 5)) {
            bad("40 findings(" + f + ")", x -> x.findings(f));
        }
    }
}
