/** All that can be seen of an object, to hold two of them against each other; the object is of no use then. */
final class Whole {
    private Whole() {
    }

    static String of(HutFlock x) {
        StringBuilder all = new StringBuilder();
        all.append("asked ").append(x.asked()).append(" upper ").append(x.upper()).append(" lower ").append(x.lower());
        all.append(" finding ").append(x.finding());
        for (int f = 1; f <= 5; f++) {
            all.append(' ').append(x.findings(f));
        }
        return all.append(untold(x)).toString();
    }

    /** All but what is told and found. */
    static String untold(HutFlock x) {
        StringBuilder all = new StringBuilder(" digest ").append(x.digest());
        // The digest does not tell the winds of winters to come, nor which deeds there are.
        for (int i = 0; i < x.count(0); i++) {
            for (int n = 1; n <= 4; n++) {
                all.append(' ').append(x.then(i, n)).append(' ').append(x.asked());
            }
        }
        past(x, all.append(" deeds"));
        for (int k = 0; k < 3; k++) {
            if (x.on(k) >= 0) {
                past(x, all.append(" kept ").append(k));
            }
        }
        return all.toString();
    }

    private static void past(HutFlock x, StringBuilder all) {
        all.append(' ').append(x.digest());
        for (int n = x.count(2) - 1; n >= 0; n--) {
            all.append(' ').append(x.undo(n)).append(' ').append(x.digest());
        }
    }
}
