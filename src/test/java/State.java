/** States in which calls are refused, each made by calls alone, so that two made alike are twins. */
enum State {
    /** Nothing has been called. */
    BARE {
        @Override
        HutFlock make() {
            return new HutFlock();
        }
    },
    /** ROWS and TEXTS, but no HUTS. */
    UNSETTLED {
        @Override
        HutFlock make() {
            HutFlock x = new HutFlock();
            furnish(x);
            return x;
        }
    },
    /** Six HUTS of all KINDS, the last one lost; kept FRONTS 0 and 2; 4 DEEDS; FOOD 4. */
    READY {
        @Override
        HutFlock make() {
            HutFlock x = settled("f215305 h190 p382 l264 g871 c059 k743");
            x.winter();
            x.feed(1);
            x.keep(0);
            x.sell(0, 2);
            x.storm(5);
            x.keep(2);
            return furnished(x);
        }
    },
    /** Three HUTS, the last one lost; no FOOD. */
    SPENT {
        @Override
        HutFlock make() {
            HutFlock x = settled("f000001 h190 p382 g264");
            x.feed(0);
            x.storm(2);
            return furnished(x);
        }
    },
    /** 40 DEEDS; four HUTS, the last one lost; FOOD 8. */
    FULL {
        @Override
        HutFlock make() {
            return crammed("f000009 h190 p382 g264 c571");
        }
    },
    /** 40 DEEDS; four HUTS, the last one lost; no FOOD. */
    FULL_SPENT {
        @Override
        HutFlock make() {
            return crammed("f000001 h190 p382 g264 c571");
        }
    },
    /** Two HUTS, both lost. */
    GONE {
        @Override
        HutFlock make() {
            HutFlock x = settled("f100001 h190 p382");
            x.storm(0);
            x.storm(1);
            return furnished(x);
        }
    };

    /** ROWS: signs of a KIND, none, an odd number of wrong ones, one missing, a wrong one, a full one. */
    private static final int[][] ROWS = {{3, 3, 5, 5}, {}, {99, 99, 99}, null, {10, 0}, new int[40]};
    static final int SIGNS = 0, EMPTY = 1, ODD = 2, MISSING = 3, WRONG = 4, WHOLE = 5;
    /** TEXTS: 0 is the FRONT's, one missing, one of no bytes, one with a FAULT. */
    static final int FRONT_TEXT = 0, MISSING_TEXT = 1, EMPTY_TEXT = 2, FAULTY_TEXT = 3;

    abstract HutFlock make();

    private static HutFlock settled(String signs) {
        HutFlock x = Due.front(signs);
        x.odds(1, 5);
        return x;
    }

    private static HutFlock crammed(String signs) {
        HutFlock x = settled(signs);
        x.feed(0);
        x.storm(3);
        x.keep(1);
        for (int d = 2; d < 40; d++) {
            x.sell(0, 1);
        }
        return furnished(x);
    }

    private static HutFlock furnished(HutFlock x) {
        furnish(x);
        return x;
    }

    /** What is told and found is not as at first, either, so that a change of it would show. */
    private static void furnish(HutFlock x) {
        for (int r = 0; r < ROWS.length; r++) {
            for (int i = 0; ROWS[r] != null && i < ROWS[r].length; i++) {
                if (i == 0) {
                    x.row(r, ROWS[r].length);
                }
                x.lay(r, i, ROWS[r][i]);
            }
        }
        x.row(EMPTY, 0);
        x.text(EMPTY_TEXT, 0);
        Due.write(x, FAULTY_TEXT, "f1234");
        x.mean(EMPTY);
        x.at(SIGNS, 2);
    }
}
