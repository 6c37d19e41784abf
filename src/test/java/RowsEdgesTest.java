/** Edges of promises 1 to 9: ROWS of 0 to 40 ints, TEXTS of 0 to 60 bytes, or missing. */
public final class RowsEdgesTest {
    private static final int LEAST = Integer.MIN_VALUE, MOST = Integer.MAX_VALUE;
    private static final Due due = new Due();

    public static void main(String[] args) {
        missingAtFirst();
        sizesOfRows();
        rowsAnew();
        placesOfRows();
        torn();
        copiesOfEdges();
        copiesOntoItself();
        meansOfEdges();
        sizesOfTexts();
        textsAnew();
        bytes();
        due.end("RowsEdgesTest");
    }

    // Promise 1: "No ROWS, TEXTS, HUTS."
    private static void missingAtFirst() {
        HutFlock x = new HutFlock();
        due.is("1 HUTS", x.count(0), 0);
        due.is("1 ROWS", x.count(8), 0);
        due.is("1 TEXTS", x.count(9), 0);
        due.is("1 kept FRONTS", x.count(10), 0);
        due.is("1 hut(0, 0)", x.hut(0, 0), HutFlock.BAD);
        for (int r = 0; r <= 5; r++) {
            due.is("1 at(" + r + ", 0)", x.at(r, 0), HutFlock.FINDING);
            due.is("1 NOTHING by ROW " + r, x.findings(1), r + 1);
        }
        for (int t = 0; t <= 3; t++) {
            due.is("1 put(" + t + ", 0, 0)", x.put(t, 0, 0), HutFlock.FINDING);
            due.is("1 NOTHING by TEXT " + t, x.findings(1), t + 7);
        }
    }

    // Promise 2: "A ROW is there with n ints 0"
    private static void sizesOfRows() {
        for (int r = 0; r <= 5; r++) {
            for (int n : new int[] {0, 1, 39, 40}) {
                HutFlock x = new HutFlock();
                String call = "2 row(" + r + ", " + n + ")";
                due.is(call, x.row(r, n), n);
                due.is(call + " ROWS", x.count(8), 1);
                for (int i = 0; i < n; i++) {
                    due.is(call + " place " + i, Due.at(x, r, i), 0);
                }
                due.is(call + " behind the last", x.at(r, n), HutFlock.FINDING);
                due.is(call + " BEYOND", x.finding(), 2);
                for (int other = 0; other <= 5; other++) {
                    due.is(call + " ROW " + other + " missing", x.tear(other) == 1 ? 0 : 1, other == r ? 0 : 1);
                }
            }
        }
    }

    private static void rowsAnew() {
        HutFlock x = new HutFlock();
        x.row(5, 40);
        for (int i = 0; i < 40; i++) {
            x.lay(5, i, i + 1);
        }
        due.is("2 row(5, 1) anew", x.row(5, 1), 1);
        due.is("2 its place 0", Due.at(x, 5, 0), 0);
        due.is("2 its place 1", x.at(5, 1), HutFlock.FINDING);
        due.is("2 row(5, 40) anew", x.row(5, 40), 40);
        for (int i = 0; i < 40; i++) {
            due.is("2 place " + i + " anew", Due.at(x, 5, i), 0);
        }
        due.is("2 row(5, 0) anew", x.row(5, 0), 0);
        due.is("2 there, though of none", x.count(8), 1);
        for (int r = 0; r <= 5; r++) {
            x.row(r, r);
        }
        due.is("2 all six ROWS", x.count(8), 6);
    }

    // Promises 3, 4: the first and the last place of ROWS of 1 and of 40; the least and the greatest int
    private static void placesOfRows() {
        for (int n : new int[] {1, 40}) {
            for (int i : new int[] {0, n - 1}) {
                HutFlock x = new HutFlock();
                x.row(0, n);
                String place = " place " + i + " of " + n;
                due.is("3 lay" + place, x.lay(0, i, MOST), 1);
                due.is("3 was 0," + place, x.asked(), 0);
                due.is("3 lay" + place, x.lay(0, i, LEAST), 1);
                due.is("3 was MOST," + place, x.asked(), MOST);
                due.is("4 at" + place, x.at(0, i), 1);
                due.is("4 is LEAST," + place, x.asked(), LEAST);
                due.is("4 at changes nothing," + place, Due.at(x, 0, i), LEAST);
                due.is("3 lay as it is," + place, x.lay(0, i, LEAST), 1);
                due.is("3 was LEAST," + place, x.asked(), LEAST);
                int others = 0;
                for (int o = 0; o < n; o++) {
                    others += o != i && Due.at(x, 0, o) != 0 ? 1 : 0;
                }
                due.is("3 no other place," + place, others, 0);
            }
        }
    }

    // Promise 5
    private static void torn() {
        HutFlock x = new HutFlock();
        for (int r = 0; r <= 5; r++) {
            x.row(r, r == 0 ? 0 : 40);
        }
        for (int r = 0; r <= 5; r++) {
            due.is("5 tear(" + r + ")", x.tear(r), 1);
            due.is("5 ROWS", x.count(8), 5 - r);
            due.is("5 tear(" + r + ") again", x.tear(r), HutFlock.FINDING);
            due.is("5 NOTHING", x.finding(), 1);
            due.is("5 at(" + r + ", 0)", x.at(r, 0), HutFlock.FINDING);
            due.is("5 NOTHING, not BEYOND", x.finding(), 1);
        }
        x.row(3, 2);
        x.lay(3, 1, 8);
        x.tear(3);
        due.is("5 row(3, 2) behind it", x.row(3, 2), 2);
        due.is("5 its place is 0 again", Due.at(x, 3, 1), 0);
    }

    // Promise 6
    private static void copiesOfEdges() {
        HutFlock x = counted(0, 40);
        x.row(1, 40);
        due.is("6 all 40", x.copy(0, 0, 1, 0, 40), 1);
        due.same("6 all 40", Due.row(x, 1), Due.row(counted(1, 40), 1));
        due.is("6 none, from the first", x.copy(0, 0, 1, 0, 0), 1);
        due.is("6 none, behind the last", x.copy(0, 40, 1, 40, 0), 1);
        due.is("6 none onto itself", x.copy(0, 40, 0, 40, 0), 1);
        due.same("6 none changes nothing", Due.row(x, 1), Due.row(x, 0));
        due.is("6 the last onto the first", x.copy(0, 39, 1, 0, 1), 1);
        due.is("6 the first is the last", Due.at(x, 1, 0), 40);
        due.is("6 the second stays", Due.at(x, 1, 1), 2);
        due.is("6 the first onto the last", x.copy(0, 0, 1, 39, 1), 1);
        due.is("6 the last is the first", Due.at(x, 1, 39), 1);
        due.is("6 the one ahead stays", Due.at(x, 1, 38), 39);
        due.is("6 the ROW from which it came stays", Due.at(x, 0, 39), 40);
        x.row(2, 0);
        due.is("6 none from a ROW of none", x.copy(2, 0, 0, 40, 0), 1);
        due.is("6 none to a ROW of none", x.copy(0, 40, 2, 0, 0), 1);
        due.is("6 the ROW of none stays so", x.at(2, 0), HutFlock.FINDING);
        x = counted(0, 3);
        x.row(5, 5);
        due.is("6 up to both ends", x.copy(0, 1, 5, 3, 2), 1);
        due.same("6 up to both ends", Due.row(x, 5), "0 0 0 2 3");
    }

    private static void copiesOntoItself() {
        HutFlock x = counted(2, 5);
        due.is("6 one up", x.copy(2, 0, 2, 1, 4), 1);
        due.same("6 one up, as if taken ahead", Due.row(x, 2), "1 1 2 3 4");
        x = counted(2, 5);
        due.is("6 one down", x.copy(2, 1, 2, 0, 4), 1);
        due.same("6 one down, as if taken ahead", Due.row(x, 2), "2 3 4 5 5");
        x = counted(2, 5);
        due.is("6 where it is", x.copy(2, 0, 2, 0, 5), 1);
        due.same("6 where it is", Due.row(x, 2), "1 2 3 4 5");
        x = counted(2, 5);
        due.is("6 two up", x.copy(2, 1, 2, 3, 2), 1);
        due.same("6 two up", Due.row(x, 2), "1 2 3 2 3");
    }

    /** An object of which a ROW is 1, 2, .. n. */
    private static HutFlock counted(int r, int n) {
        HutFlock x = new HutFlock();
        x.row(r, n);
        for (int i = 0; i < n; i++) {
            x.lay(r, i, i + 1);
        }
        return x;
    }

    // Promise 7: "cut"
    private static void meansOfEdges() {
        mean("7 of one", 7, 7);
        mean("7 of one below 0", -7, -7);
        mean("7 just below 4", 3, 3, 4);
        mean("7 just above -4", -3, -3, -4);
        mean("7 just below 1", 0, 1, 1, 0);
        mean("7 just above -1", 0, -1, -1, 0);
        mean("7 exactly -1", -1, -1, -1);
        mean("7 sums to 0", 0, MOST, -MOST);
        mean("7 MOST, LEAST", 0, MOST, LEAST);
        mean("7 LEAST alone", LEAST, LEAST);
        int[] most = new int[40];
        int[] least = new int[40];
        int[] one = new int[40];
        java.util.Arrays.fill(most, MOST);
        java.util.Arrays.fill(least, LEAST);
        one[39] = 39;
        mean("7 forty times MOST", MOST, most);
        mean("7 forty times LEAST", LEAST, least);
        mean("7 39 among forty", 0, one);
        one[39] = 40;
        mean("7 40 among forty", 1, one);
        one[39] = -40;
        mean("7 -40 among forty", -1, one);
    }

    private static void mean(String call, int want, int... ints) {
        HutFlock x = new HutFlock();
        x.row(4, ints.length);
        for (int i = 0; i < ints.length; i++) {
            x.lay(4, i, ints[i]);
        }
        due.is(call, x.mean(4), 1);
        due.is(call + " asked()", x.asked(), want);
    }

    // Promise 8: "A TEXT is there with n blanks"
    private static void sizesOfTexts() {
        for (int t = 0; t <= 3; t++) {
            for (int n : new int[] {0, 1, 59, 60}) {
                HutFlock x = new HutFlock();
                String call = "8 text(" + t + ", " + n + ")";
                due.is(call, x.text(t, n), n);
                due.is(call + " TEXTS", x.count(9), 1);
                due.is(call + " blanks alone", x.fault(t), n);
                for (int i = 0; i < n; i++) {
                    due.is(call + " byte " + i, x.put(t, i, 32), 1032);
                }
                due.is(call + " behind the last", x.put(t, n, 32), HutFlock.FINDING);
                due.is(call + " BEYOND", x.finding(), 2);
                for (int other = 0; other <= 3; other++) {
                    due.is(call + " TEXT " + other + " missing", x.fault(other) == -3 ? 1 : 0, other == t ? 0 : 1);
                }
            }
        }
    }

    private static void textsAnew() {
        HutFlock x = new HutFlock();
        x.text(3, 60);
        for (int i = 0; i < 60; i++) {
            x.put(3, i, 65);
        }
        due.is("8 text(3, 1) anew", x.text(3, 1), 1);
        due.is("8 its byte 0", x.put(3, 0, 66), 1032);
        due.is("8 its byte 1", x.put(3, 1, 66), HutFlock.FINDING);
        due.is("8 text(3, 60) anew", x.text(3, 60), 60);
        for (int i = 0; i < 60; i++) {
            due.is("8 byte " + i + " anew", x.put(3, i, 65), 1032);
        }
        due.is("8 text(3, 0) anew", x.text(3, 0), 0);
        due.is("8 there, though of none", x.count(9), 1);
        for (int t = 0; t <= 3; t++) {
            x.text(t, t);
        }
        due.is("8 all four TEXTS", x.count(9), 4);
    }

    // Promise 9: "cut to a byte: what it was, and 1000 more"
    private static void bytes() {
        int[][] cuts = {
            {0, 0}, {1, 1}, {127, 127}, {128, -128}, {129, -127}, {255, -1}, {256, 0}, {257, 1}, {383, 127},
            {384, -128}, {-1, -1}, {-128, -128}, {-129, 127}, {-256, 0}, {MOST, -1}, {LEAST, 0}, {LEAST + 128, -128}};
        for (int i : new int[] {0, 59}) {
            HutFlock x = new HutFlock();
            x.text(0, 60);
            int was = 32;
            for (int[] cut : cuts) {
                due.is("9 put(0, " + i + ", " + cut[0] + ")", x.put(0, i, cut[0]), 1000 + was);
                was = cut[1];
            }
            due.is("9 the last one", x.put(0, i, 0), 1000 + was);
            due.is("9 no other byte", x.put(0, i == 0 ? 1 : 58, 0), 1032);
            due.is("9 asked() stays", x.asked(), 0);
        }
    }
}
