/** Promises 22 to 30: note, heard, forget, is, listen, which, powers, walks, dynasties. */
public final class KnowTest {
    private static final Check check = new Check();

    public static void main(String[] args) {
        note();
        heard();
        forget();
        is();
        listen();
        which();
        powers();
        walks();
        walksLowest();
        dynasties();
        check.end();
    }

    private static void note() {
        PramState x = Check.of(0, 0, 0);
        check.bad(x, "note(-1, ..)", y -> y.note(-1, 0, 0, 0, 0));
        check.bad(x, "note(1, ..)", y -> y.note(1, 0, 0, 0, 0));
        check.bad(x, "note, months -1", y -> y.note(0, -1, 0, 0, 0));
        check.bad(x, "note, months 36", y -> y.note(0, 36, 0, 0, 0));
        check.bad(x, "note, hour -1", y -> y.note(0, 0, -1, 0, 0));
        check.bad(x, "note, hour 24", y -> y.note(0, 0, 24, 0, 0));
        check.bad(x, "note, slept -1", y -> y.note(0, 0, 0, -1, 0));
        check.bad(x, "note, slept 2", y -> y.note(0, 0, 0, 2, 0));
        check.bad(x, "note, cried -1", y -> y.note(0, 0, 0, 0, -1));
        check.bad(x, "note, cried 21", y -> y.note(0, 0, 0, 0, 21));
        x.month(1);
        for (int n = 1; n <= 6; n++) {
            check.due("note " + n, x.note(0, 35, 23, 1, 20), n);
            check.due("count(3)", x.count(3), n);
        }
        check.full(x, "a 7th note", y -> y.note(0, 0, 0, 0, 0));
        check.bad(x, "a 7th note, and bad", y -> y.note(0, 36, 0, 0, 0));
        check.due("it may be undone yet", x.count(5), 1);
        check.due("heard is apart", x.count(4), 0);
    }

    private static void heard() {
        PramState x = Check.of(0, 0, 0);
        check.bad(x, "heard(-1, 0)", y -> y.heard(-1, 0));
        check.bad(x, "heard(1, 0)", y -> y.heard(1, 0));
        check.bad(x, "heard(0, -1)", y -> y.heard(0, -1));
        check.bad(x, "heard(0, 2)", y -> y.heard(0, 2));
        for (int n = 1; n <= 6; n++) {
            check.due("heard " + n, x.heard(0, 1), n);
            check.due("count(4)", x.count(4), n);
        }
        check.full(x, "a 7th heard", y -> y.heard(0, 0));
        check.bad(x, "a 7th heard, and bad", y -> y.heard(0, 2));
        check.due("notes are apart", x.count(3), 0);
    }

    private static void forget() {
        PramState x = Check.of(0, 0, 0);
        x.note(0, 0, 12, 0, 3);
        x.note(0, 0, 12, 0, 2);
        x.heard(0, 1);
        check.bad(x, "forget(-1)", y -> y.forget(-1));
        check.bad(x, "forget(2)", y -> y.forget(2));
        check.due("is(0) ahead", x.is(0), 0);
        check.due("forget(0)", x.forget(0), 2);
        check.due("is(0) then", x.is(0), 63);
        check.due("count(3)", x.count(3), 0);
        check.due("count(4)", x.count(4), 1);
        check.due("forget(0) again", x.forget(0), 0);
        check.due("forget(1)", x.forget(1), 1);
        check.due("which() then", x.which(), (1 << 24) - 1);
        check.due("forget(1) again", x.forget(1), 0);
    }

    /** KINDS by one note. */
    private static int fits(int m, int h, int slept, int cried) {
        PramState x = Check.of(0, 0, 0);
        x.skill(0, 9);
        x.note(0, m, h, slept, cried);
        return x.is(0);
    }

    private static void is() {
        PramState x = Check.of(0, 9, 0, 0, 9, 0);
        check.due("is(0) without notes", x.is(0), 63);
        check.due("asleep at 0", fits(3, 0, 1, 0), 63);
        check.due("awake at 0", fits(3, 0, 0, 3), 0);
        check.due("asleep, yet crying", fits(3, 0, 1, 1), 0);
        check.due("awake, not crying", fits(3, 9, 0, 0), 0);
        check.due("asleep at 2", fits(3, 2, 1, 0), 63 - 4);
        check.due("awake at 3", fits(3, 3, 0, 3), 4);
        check.due("asleep at 12", fits(3, 12, 1, 0), 63 - 16);
        check.due("asleep at 14", fits(3, 14, 1, 0), 16);
        check.due("asleep at 17", fits(3, 17, 1, 0), 32);
        check.due("3 at 9 with 5 months", fits(5, 9, 0, 3), 1 + 4 + 8 + 16);
        check.due("3 at 9 with 6 months", fits(6, 9, 0, 3), 32);
        check.due("5 at 9 with 5 months", fits(5, 9, 0, 5), 32);
        check.due("5 at 9 with 11 months", fits(11, 9, 0, 5), 4);
        check.due("6 at 9 with 5 months", fits(5, 9, 0, 6), 2);
        check.due("4 at 9 with 35 months", fits(35, 9, 0, 4), 2);
        x.note(0, 12, 9, 0, 2);
        check.due("two as of 12 months", x.is(0), 1 + 4 + 8 + 16);
        x.note(0, 7, 9, 0, 2);
        check.due("no teether", x.is(0), 1 + 8 + 16);
        x.note(1, 7, 9, 0, 5);
        x.note(0, 7, 14, 0, 2);
        check.due("not late", x.is(0), 1 + 8);
        check.due("another one's notes", x.is(1), 4);
        x.note(1, 7, 9, 0, 4);
        check.answered(x, "none fits", y -> y.is(1), 0);
        check.bad(x, "is(-1)", y -> y.is(-1));
        check.bad(x, "is(2)", y -> y.is(2));
    }

    private static void listen() {
        PramState x = Check.of(0, 9, 0, 0, 9, 0);
        check.due("listen(0) without notes", x.listen(0), 14);
        x.skill(0, 9);
        check.due("listen(0): the nurse is no matter", x.listen(0), 14);
        x.note(0, 9, 9, 0, 2);
        // plain, early, late: the late one is told apart in 12 and 14
        check.due("listen(0): plain, early, late", x.listen(0), 12);
        x.note(0, 9, 12, 1, 0);
        check.due("listen(0): plain, early are alike always", x.listen(0), 0);
        x.note(0, 9, 12, 0, 2);
        check.answered(x, "listen(0): no kind", y -> y.listen(0), PramState.NONE);
        x.note(1, 12, 9, 0, 2);
        // plain, teether, early, late with 9 months: 2, 5, 2, 2 as awake; in 14 the late one sleeps
        check.due("listen(1) with 9 months", x.listen(1), 14);
        x.month(3);
        // with 12 months all of them cry 2: three are alike in 2 (asleep), in 12 and in 14
        check.due("listen(1) with 12 months", x.listen(1), 2);
        for (int m = 0; m <= 35; m++) {
            for (int set = 0; set < 64; set++) listenOf(m, set);
        }
        check.bad(x, "listen(-1)", y -> y.listen(-1));
        check.bad(x, "listen(2)", y -> y.listen(2));
    }

    /** Notes taken from some of the kinds' own hours, then the hour by the face's own sleep and crying. */
    private static void listenOf(int m, int set) {
        PramState kinds = Check.ofAllKinds(m);
        PramState x = Check.of(0, m, 0);
        int like = set % 6;
        for (int n = 0; n < set / 6 % 6; n++) {
            int h = (7 + 5 * n + set) % 24;
            x.note(0, m, h, kinds.hour(like, h, 0), kinds.hour(like, h, 1));
        }
        int fitting = x.is(0);
        int best = PramState.NONE;
        int fewest = 7;
        for (int h = 0; h < 24; h++) {
            int[] groups = new int[200];
            int most = 0;
            for (int k = 0; k < 6; k++) {
                if ((fitting >> k & 1) == 0) continue;
                int group = 100 * kinds.hour(k, h, 0) + kinds.hour(k, h, 1);
                groups[group]++;
                most = Math.max(most, groups[group]);
            }
            if (most < fewest) {
                fewest = most;
                best = h;
            }
        }
        check.due("months " + m + ", set " + set + ": its own kind fits", fitting >> like & 1, 1);
        check.due("months " + m + ", set " + set + ": listen(0)", x.listen(0), best);
    }

    private static void which() {
        int day = (1 << 24) - 1;
        int[] awake = {0b1111100111110000000, 0b1111100111110000000, 0b1111100111110001100,
            0b1111100111110000000, 0b1111001111110000000, 0b1011100111110000000};
        for (int kind = 0; kind < 6; kind++) {
            PramState x = Check.ofAllKinds(3);
            check.due("which() of nothing", x.which(), day);
            x.heard(kind, 1);
            check.answered(x, "kind " + kind + " was awake", y -> y.which(), awake[kind]);
            x.forget(1);
            x.heard(kind, 0);
            check.answered(x, "kind " + kind + " slept", y -> y.which(), day - awake[kind]);
            x.heard(kind, 1);
            check.answered(x, "both", y -> y.which(), 0);
        }
        PramState x = Check.ofAllKinds(3);
        x.heard(0, 0);
        x.heard(2, 1);
        check.due("the teether alone", x.which(), 1 << 2 | 1 << 3);
        x.forget(1);
        x.heard(0, 1);
        x.heard(5, 0);
        check.due("the bear's hour", x.which(), 1 << 17);
        x.month(30);
        check.due("the bear's hour, when all are retired", x.which(), 1 << 17);
    }

    private static void powers() {
        PramState x = Check.of(5, 0, 0, 2, 3, 0);
        for (int h = 0; h < 24; h++) {
            int hour = h;
            check.answered(x, "powers(" + h + ")", y -> y.powers(hour), x.hour(1, h, 0) == 1 ? 15 : 1);
        }
        x.retire(1);
        check.due("the bear reigns then, asleep at 17", x.powers(17), 15);
        check.due("the bear reigns then, awake at 16", x.powers(16), 1);
        x.skill(0, 9);
        check.due("with a nurse", x.powers(16), 1);
        x.retire(0);
        check.answered(x, "nobody reigns", y -> y.powers(9), 15);
        check.due("of one who walks in the next month", Check.of(0, 1, 0, 4, 17, 0).powers(12), 1);
        check.due("of one who walks in the next month, asleep", Check.of(0, 1, 0, 4, 17, 0).powers(14), 15);
        check.bad(x, "powers(-1)", y -> y.powers(-1));
        check.bad(x, "powers(24)", y -> y.powers(24));
    }

    private static void fraction(PramState x, int m, int c, long above, long below) {
        check.due("walks(" + m + ", " + c + ")", x.walks(m, c), 1);
        check.due("walks(" + m + ", " + c + "): part(0)", x.part(0), above);
        check.due("walks(" + m + ", " + c + "): part(1)", x.part(1), below);
    }

    private static void walks() {
        PramState x = Check.of(0, 0, 0, 4, 11, 0);
        fraction(x, 0, 0, 1, 1);
        fraction(x, 0, 10, 1, 1);
        fraction(x, 1, 10, 0, 1);
        fraction(x, 1, 0, 1, 1);
        fraction(x, 1, 5, 1, 2);
        fraction(x, 3, 2, 64, 125);
        fraction(x, 6, 9, 1, 1000000);
        fraction(x, 7, 9, 0, 1);
        fraction(x, 6, 4, 729, 15625);
        fraction(x, 9, 0, 0, 1);
        fraction(x, 2, 3, 49, 100);
        PramState old = Check.of(0, 13, 0, 0, 5, 0);
        fraction(old, 0, 5, 1, 1);
        fraction(old, 1, 0, 0, 1);
        PramState alone = Check.of(0, 13, 0);
        fraction(alone, 0, 5, 1, 1);
        fraction(alone, 1, 5, 0, 1);
        check.bad(x, "walks(-1, 0)", y -> y.walks(-1, 0));
        check.bad(x, "walks(10, 0)", y -> y.walks(10, 0));
        check.bad(x, "walks(0, -1)", y -> y.walks(0, -1));
        check.bad(x, "walks(0, 11)", y -> y.walks(0, 11));
        x.retire(0);
        x.retire(1);
        check.no(x, "walks when nobody reigns", y -> y.walks(1, 1));
        check.bad(x, "walks when nobody reigns, and bad", y -> y.walks(10, 1));
        check.due("the fraction stays", x.part(0), 49);
    }

    private static void walksLowest() {
        PramState x = Check.of(4, 0, 0);
        for (int m = 0; m <= 9; m++) {
            for (int c = 0; c <= 10; c++) {
                long above = 1;
                long below = 1;
                for (int k = 0; k < m; k++) {
                    above *= 10 - c;
                    below *= 10;
                }
                x.walks(m, c);
                long a = x.part(0);
                long b = x.part(1);
                String call = "walks(" + m + ", " + c + ")";
                check.due(call + ": the same fraction", a * below, above * b);
                check.due(call + ": lowest terms", common(a, b), 1);
                check.due(call + ": below above 0", b > 0 ? 1 : 0, 1);
            }
        }
    }

    private static long common(long a, long b) {
        return b == 0 ? a : common(b, a % b);
    }

    private static void dynasties() {
        PramState x = Check.of(3, 30, 0, 0, 5, 0, 4, 2, 0);
        x.retire(1);
        check.due("dynasties(7, 0)", x.dynasties(7, 0), 0);
        int[] seeds = {0, 1, 5, 77, 999999};
        for (int seed : seeds) {
            for (int n = 0; n <= 60; n += 12) {
                int times = n;
                long want = byCourts(seed, times, 3, 0, 4);
                check.answered(x, "dynasties(" + seed + ", " + n + ")", y -> y.dynasties(seed, times), want);
            }
        }
        check.bad(x, "dynasties(-1, 0)", y -> y.dynasties(-1, 0));
        check.bad(x, "dynasties(1000000, 0)", y -> y.dynasties(1000000, 0));
        check.bad(x, "dynasties(0, -1)", y -> y.dynasties(0, -1));
        check.bad(x, "dynasties(0, 61)", y -> y.dynasties(0, 61));
        check.due("dynasties of none", new PramState().dynasties(5, 60), 0);
    }

    /** The same by real courts, each with a month that goes by. */
    private static long byCourts(int seed, int n, int... kinds) {
        java.math.BigInteger x = java.math.BigInteger.valueOf(seed);
        java.math.BigInteger modulus = java.math.BigInteger.valueOf(2147483648L);
        long sum = 0;
        for (int k = 0; k < n; k++) {
            PramState court = new PramState();
            for (int kind : kinds) {
                x = x.multiply(java.math.BigInteger.valueOf(1103515245L)).add(java.math.BigInteger.valueOf(12345L)).mod(modulus);
                court.infant(kind, (int) (x.longValue() / 65536 % 36), 0);
            }
            sum += court.month(1) + 1;
        }
        return sum;
    }
}
