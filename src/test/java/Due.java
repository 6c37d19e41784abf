/** Counts the answers that are not the ones that are due, and prints them. */
final class Due {
    private int wrong = 0;
    private int calls = 0;

    void is(String call, long got, long want) {
        calls++;
        if (got != want) {
            wrong++;
            System.out.println(call + " answered " + got + ", due is " + want);
        }
    }

    void end(String name) {
        System.out.println(name + ": " + calls + " answers, " + wrong + " not as due");
        if (wrong != 0) {
            System.exit(1);
        }
    }

    static void write(HutFlock x, int t, String signs) {
        x.text(t, signs.length());
        for (int i = 0; i < signs.length(); i++) {
            x.put(t, i, signs.charAt(i));
        }
    }

    static HutFlock front(String signs) {
        HutFlock x = new HutFlock();
        write(x, 0, signs);
        if (x.front(0) < 0) {
            throw new IllegalArgumentException("no front: " + signs);
        }
        return x;
    }

    static int hut(HutFlock x, int i, int what) {
        return x.hut(i, what) == 1 ? x.asked() : Integer.MIN_VALUE;
    }

    static int at(HutFlock x, int r, int i) {
        return x.at(r, i) == 1 ? x.asked() : Integer.MIN_VALUE;
    }

    /** The places of a row, with blanks between; of a missing one there are none. */
    static String row(HutFlock x, int r) {
        StringBuilder all = new StringBuilder();
        for (int i = 0; x.at(r, i) == 1; i++) {
            all.append(i == 0 ? "" : " ").append(x.asked());
        }
        return all.toString();
    }

    void same(String call, String got, String want) {
        calls++;
        if (!got.equals(want)) {
            wrong++;
            System.out.println(call + " answered " + got + ", due is " + want);
        }
    }
}
