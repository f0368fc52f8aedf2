/** What an infant is, which hour it was, powers, odds and seeds: the sentences that name an edge. */
public final class EdgeKnowTest {
    private static final Check check = new Check();
    private static final int ALL = 63;
    private static final int DAY = (1 << 24) - 1;

    public static void main(String[] args) {
        noNotesAllKinds();
        notesOfItAlone();
        notesAtTheEdgesOfSleep();
        notesAtTheEdgesOfMonths();
        asWithoutANurse();
        asleepAndCrying();
        moreThanAnyoneCries();
        sixNotesAllCount();
        listenOfOneKind();
        listenOfNoKind();
        listenOfLikeHours();
        listenByMonthsAsTheyAre();
        whichOfNothing();
        whichHours();
        whichOfTheRetired();
        powersAsleepAndAwake();
        powersOfNobody();
        walksOfOdds();
        walksTillItWalks();
        walksRefused();
        fractionLowest();
        dynastiesOfNone();
        dynastiesFirstSteps();
        dynastiesByWalkingAges();
        dynastiesGoOn();
        dynastiesOfLikeOnes();
        dynastiesOfTheRetired();
        check.end();
    }

    private static int fits(int m, int h, int slept, int x) {
        PramState y = Check.of(0, 0, 0);
        check.due("note(0, " + m + ", " + h + ", " + slept + ", " + x + ")", y.note(0, m, h, slept, x), 1);
        return y.is(0);
    }

    /** "KINDS (bits) by which all NOTES of it are so": of none, all. */
    private static void noNotesAllKinds() {
        PramState x = Check.ofAllKinds(3);
        for (int i = 0; i < 6; i++) {
            int own = i;
            check.answered(x, "is(" + i + ")", y -> y.is(own), ALL);
        }
    }

    private static void notesOfItAlone() {
        PramState x = Check.ofAllKinds(3);
        x.note(5, 3, 17, 1, 0);
        x.note(0, 3, 14, 1, 0);
        int[] want = {16, ALL, ALL, ALL, ALL, 32};
        for (int i = 0; i < 6; i++) check.due("is(" + i + ")", x.is(i), want[i]);
        check.due("what it is said to be is no matter", x.of(0, 0), 0);
    }

    /** SLEPT or not in each hour, with what PLAIN cries with 35 months. */
    private static void notesAtTheEdgesOfSleep() {
        int[] slept = {ALL, ALL, ALL - 4, ALL - 4, ALL, ALL, ALL, 0, 0, 0, 0, 0, ALL - 16, ALL, 16, 0, 0, 32, 0,
            ALL, ALL, ALL, ALL, ALL};
        for (int h = 0; h < 24; h++) {
            check.due("slept in " + h, fits(35, h, 1, 0), slept[h]);
            int awake = ALL - slept[h];
            check.due("2 in " + h, fits(35, h, 0, 2), awake & 1 + 4 + 8 + 16);
            check.due("3 in " + h, fits(35, h, 0, 3), awake & 32);
            check.due("4 in " + h, fits(35, h, 0, 4), awake & 2);
            check.due("nothing in " + h, fits(35, h, 0, 0), 0);
        }
    }

    /** "with m (0 .. 35) MONTHS": the note's, not those that it has. */
    private static void notesAtTheEdgesOfMonths() {
        int[] months = {0, 5, 6, 11, 12, 35};
        int[][] kinds = {
            {0, 0, 1 + 8 + 16, 1 + 8 + 16, 1 + 4 + 8 + 16, 1 + 4 + 8 + 16},
            {1 + 4 + 8 + 16, 1 + 4 + 8 + 16, 32, 32, 32, 32},
            {0, 0, 2, 2, 2, 2},
            {32, 32, 4, 4, 0, 0},
            {2, 2, 0, 0, 0, 0},
        };
        for (int k = 0; k < months.length; k++) {
            for (int x = 2; x <= 6; x++) {
                check.due(x + " in hour 9 with " + months[k], fits(months[k], 9, 0, x), kinds[x - 2][k]);
            }
        }
        PramState old = Check.of(2, 35, 0);
        old.note(0, 5, 9, 0, 3);
        check.due("of an old one when it was young", old.is(0), 1 + 4 + 8 + 16);
    }

    /** "CRIED x in it (as without a NURSE ..)". */
    private static void asWithoutANurse() {
        PramState x = Check.of(1, 3, 0);
        x.skill(0, 9);
        check.due("by its nurse it cries less", x.hour(0, 9, 1), 2);
        x.note(0, 3, 9, 0, 6);
        check.due("as without one", x.is(0), 2);
        x.forget(0);
        x.note(0, 3, 9, 0, 2);
        check.due("not as with one", x.is(0), 0);
    }

    /** "(.. asleep 0)": one that slept and cried fits no kind, and is a note all the same. */
    private static void asleepAndCrying() {
        for (int cried : new int[] {1, 2, 3, 20}) check.due("slept and cried " + cried, fits(3, 0, 1, cried), 0);
        check.due("slept and did not", fits(3, 0, 1, 0), ALL);
        check.due("awake and did not", fits(3, 9, 0, 0), 0);
        check.due("awake by night and did not", fits(3, 0, 0, 0), 0);
    }

    /** "x (0 .. 20)": the most is taken, though no kind cries so much. */
    private static void moreThanAnyoneCries() {
        for (int cried = 7; cried <= 20; cried++) check.due("cried " + cried, fits(3, 9, 0, cried), 0);
        check.due("cried 1", fits(3, 9, 0, 1), 0);
    }

    private static void sixNotesAllCount() {
        PramState x = Check.of(0, 0, 0);
        for (int n = 0; n < 5; n++) x.note(0, 0, n % 2, 1, 0);
        check.due("five that all fit", x.is(0), ALL);
        x.note(0, 0, 14, 1, 0);
        check.due("the sixth counts", x.is(0), 16);
        check.full(x, "a seventh", y -> y.note(0, 0, 0, 0, 20));
        check.due("the seventh does not", x.is(0), 16);
        PramState z = Check.of(0, 0, 0);
        z.note(0, 0, 17, 1, 0);
        for (int n = 0; n < 5; n++) z.note(0, 0, n % 2, 1, 0);
        check.due("the first of six counts", z.is(0), 32);
    }

    /** One kind is alone in every hour: of like hours the first, 0. */
    private static void listenOfOneKind() {
        PramState x = Check.of(0, 3, 0, 0, 3, 0);
        x.note(0, 3, 14, 1, 0);
        check.due("a late one", x.listen(0), 0);
        x.note(1, 3, 17, 1, 0);
        check.due("a bear", x.listen(1), 0);
    }

    /** "none: no KIND". */
    private static void listenOfNoKind() {
        PramState x = Check.of(0, 3, 0, 0, 3, 0);
        x.note(0, 3, 0, 0, 0);
        check.answered(x, "listen(0)", y -> y.listen(0), PramState.NONE);
        check.answered(x, "listen(1), of which nothing was noted", y -> y.listen(1), 14);
        x.forget(0);
        check.due("listen(0) then", x.listen(0), 14);
    }

    /** "of like ones the first": plain and early are never told apart; two apart in one hour of many. */
    private static void listenOfLikeHours() {
        PramState x = Check.of(0, 12, 0);
        x.note(0, 12, 9, 0, 2);
        // plain, teether, early, late: in 2 the teether is awake; in 12 the late one is
        check.due("the first hour that parts one", x.listen(0), 2);
        x.note(0, 12, 2, 1, 0);
        check.due("plain, early, late", x.listen(0), 12);
        x.note(0, 12, 14, 0, 2);
        check.due("plain, early: no hour parts them", x.listen(0), 0);
        PramState twins = Check.of(1, 3, 0);
        check.due("all kinds", twins.listen(0), 14);
    }

    /** "(MONTHS as they are)": the hours change as the infant grows, also as it is retired. */
    private static void listenByMonthsAsTheyAre() {
        int[] months = {5, 6, 11, 12, 35};
        // plain, teether, early, late by a note with 12 months
        int[] want = {2, 14, 14, 2, 2};
        for (int k = 0; k < months.length; k++) {
            PramState x = Check.of(0, months[k], 0);
            x.note(0, 12, 9, 0, 2);
            check.due("with " + months[k], x.listen(0), want[k]);
        }
        PramState x = Check.of(4, 10, 0);
        x.note(0, 12, 9, 0, 2);
        check.due("with 10", x.listen(0), 14);
        x.month(1);
        check.due("with 11", x.listen(0), 14);
        x.month(1);
        check.due("with 12", x.listen(0), 2);
        x.undo();
        check.due("with 11 again", x.listen(0), 14);
        x.retire(0);
        check.due("retired", x.listen(0), 14);
    }

    /** "HOURS (bits 0 .. 23) that it may have been": of nothing heard, all. */
    private static void whichOfNothing() {
        check.answered(new PramState(), "none", y -> y.which(), DAY);
        check.answered(Check.ofAllKinds(3), "nothing heard", y -> y.which(), DAY);
        check.due("bits 0 to 23 alone", DAY, 16777215);
    }

    private static void whichHours() {
        PramState x = Check.ofAllKinds(3);
        x.heard(0, 0);
        check.due("a plain one sleeps: 0, 23 and between", x.which(), 0b111110000011000001111111);
        x.heard(4, 0);
        check.due("a late one, too", x.which(), 0b111110000010000001111111);
        x.heard(2, 1);
        check.due("a teether does not", x.which(), 0b1100);
        x.forget(1);
        x.heard(0, 1);
        x.heard(4, 0);
        check.due("14 alone", x.which(), 1 << 14);
        x.heard(5, 1);
        check.due("14 yet", x.which(), 1 << 14);
        x.heard(5, 0);
        check.answered(x, "awake and asleep", y -> y.which(), 0);
        x.forget(1);
        for (int n = 0; n < 5; n++) x.heard(0, 1);
        x.heard(5, 0);
        check.due("the sixth counts", x.which(), 1 << 17);
        check.full(x, "a seventh", y -> y.heard(5, 1));
        check.due("the seventh does not", x.which(), 1 << 17);
    }

    private static void whichOfTheRetired() {
        PramState x = Check.of(4, 3, 0);
        x.heard(0, 1);
        int hours = x.which();
        check.due("awake", hours, 0b1111001111110000000);
        x.retire(0);
        check.due("retired", x.which(), hours);
        x.heard(0, 1);
        check.due("heard of a retired one", x.count(4), 2);
    }

    /** "(asleep: 0 to both)": all pairs rest; awake by the numbers told bears both alone do, however little it cries. */
    private static void powersAsleepAndAwake() {
        for (int kind = 0; kind < 6; kind++) {
            for (int s : new int[] {0, 4, 5, 6, 9}) {
                PramState x = Check.of(kind, 3, 0);
                x.skill(0, s);
                for (int h = 0; h < 24; h++) {
                    check.due("kind " + kind + ", skill " + s + ": powers(" + h + ")", x.powers(h), x.hour(0, h, 0) == 1 ? 15 : 1);
                }
            }
        }
    }

    /** "nobody REIGNS: all". */
    private static void powersOfNobody() {
        PramState x = Check.of(0, 3, 0);
        check.due("awake", x.powers(9), 1);
        x.retire(0);
        for (int h : new int[] {0, 9, 23}) check.answered(x, "powers(" + h + ") of nobody", y -> y.powers(h), 15);
        check.answered(new PramState(), "powers(9) of none", y -> y.powers(9), 15);
        PramState two = Check.of(0, 3, 0, 4, 4, 0);
        check.due("who reigns is awake in 12", two.powers(12), 1);
        check.due("who reigns sleeps in 14", two.powers(14), 15);
        two.retire(1);
        check.due("the other one sleeps in 12", two.powers(12), 15);
        check.due("the other one is awake in 14", two.powers(14), 1);
        PramState old = Check.of(0, 3, 0, 4, 17, 0);
        check.due("who reigns now, though it walks next, is awake in 12", old.powers(12), 1);
        check.due("who reigns now, though it walks next, sleeps in 14", old.powers(14), 15);
    }

    private static void fraction(PramState x, int m, int c, long above, long below) {
        check.answeredAnew(x, "walks(" + m + ", " + c + ")", y -> y.walks(m, c), 1);
        check.due("walks(" + m + ", " + c + "): above", x.part(0), above);
        check.due("walks(" + m + ", " + c + "): below", x.part(1), below);
    }

    /** "c of 10 (0 .. 10)", "m (0 .. 9)": no month, no odds, all odds, the most of each. */
    private static void walksOfOdds() {
        PramState x = Check.of(4, 0, 0);
        for (int c = 0; c <= 10; c++) fraction(x, 0, c, 1, 1);
        for (int m = 0; m <= 9; m++) fraction(x, m, 0, 1, 1);
        for (int m = 1; m <= 9; m++) fraction(x, m, 10, 0, 1);
        fraction(x, 9, 1, 387420489, 1000000000);
        fraction(x, 9, 2, 262144, 1953125);
        fraction(x, 9, 3, 40353607, 1000000000);
        fraction(x, 9, 4, 19683, 1953125);
        fraction(x, 9, 5, 1, 512);
        fraction(x, 9, 6, 512, 1953125);
        fraction(x, 9, 7, 19683, 1000000000);
        fraction(x, 9, 8, 1, 1953125);
        fraction(x, 9, 9, 1, 1000000000);
        fraction(x, 1, 1, 9, 10);
        fraction(x, 1, 9, 1, 10);
    }

    /** "(0, if by REIGN it does not)": the last month in which it reigns, and the one behind. */
    private static void walksTillItWalks() {
        PramState x = Check.of(0, 9, 0, 4, 8, 0);
        fraction(x, 4, 5, 1, 16);
        fraction(x, 5, 5, 0, 1);
        fraction(x, 9, 0, 0, 1);
        fraction(x, 4, 0, 1, 1);
        PramState old = Check.of(0, 35, 0);
        fraction(old, 0, 10, 1, 1);
        fraction(old, 1, 0, 0, 1);
        PramState like = Check.of(0, 9, 0, 0, 9, 0);
        fraction(like, 4, 1, 6561, 10000);
        fraction(like, 5, 1, 0, 1);
    }

    /** "BAD; NO: nobody REIGNS": the fraction stays as it was. */
    private static void walksRefused() {
        PramState x = Check.of(0, 3, 0);
        fraction(x, 2, 3, 49, 100);
        check.bad(x, "walks(10, 0)", y -> y.walks(10, 0));
        check.bad(x, "walks(0, 11)", y -> y.walks(0, 11));
        check.due("above stays", x.part(0), 49);
        check.due("below stays", x.part(1), 100);
        x.retire(0);
        check.no(x, "walks(0, 0)", y -> y.walks(0, 0));
        check.due("above stays", x.part(0), 49);
        check.due("below stays", x.part(1), 100);
        PramState none = new PramState();
        check.no(none, "walks(0, 0) of none", y -> y.walks(0, 0));
        check.due("as at first, above", none.part(0), 0);
        check.due("as at first, below", none.part(1), 1);
    }

    /** "lowest terms, below above 0". */
    private static void fractionLowest() {
        for (int m = 0; m <= 9; m++) {
            for (int c = 0; c <= 10; c++) {
                PramState x = Check.of(4, 0, 0);
                x.walks(m, c);
                long a = x.part(0);
                long b = x.part(1);
                check.due("walks(" + m + ", " + c + "): lowest", gcd(a, b), 1);
                check.due("walks(" + m + ", " + c + "): below above 0", b > 0 ? 1 : 0, 1);
                check.due("walks(" + m + ", " + c + "): its worth", a * power(10, m), b * power(10 - c, m));
            }
        }
    }

    private static long gcd(long a, long b) {
        return b == 0 ? a : gcd(b, a % b);
    }

    private static long power(long x, int n) {
        return n == 0 ? 1 : x * power(x, n - 1);
    }

    private static void dynastiesOfNone() {
        for (int seed : new int[] {0, 1, 999999}) {
            for (int n : new int[] {0, 1, 60}) {
                check.answered(new PramState(), "of none", y -> y.dynasties(seed, n), 0);
            }
        }
        check.answered(Check.ofAllKinds(3), "no time", y -> y.dynasties(999999, 0), 0);
    }

    /**
     * By hand: of seed 0 X is 12345, so 0 MONTHS; of 1 it is 1103527590, 16838 by 65536, 26 MONTHS; of 2 it is
     * 2207042835, which is past 2147483648: 59559187 is left, 908 by 65536, 8 MONTHS.
     */
    private static void dynastiesFirstSteps() {
        PramState x = Check.of(0, 35, 0);
        check.due("seed 0", x.dynasties(0, 1), 1);
        check.due("seed 1, just ahead of the wrap-around", x.dynasties(1, 1), 0);
        check.due("seed 2, just behind it", x.dynasties(2, 1), 1);
        PramState early = Check.of(3, 0, 0);
        check.due("seed 2, early: 9 are below 11", early.dynasties(2, 1), 1);
    }

    private static int monthsOf(long x) {
        return (int) (x / 65536 % 36);
    }

    private static long next(long x) {
        return (x * 1103515245L + 12345L) % 2147483648L;
    }

    /** "MONTHS .. then a MONTH goes by": all of 0 to 35 come, and one with as many as it walks with does not reign. */
    private static void dynastiesByWalkingAges() {
        int[] ages = {14, 14, 14, 11, 18, 14};
        for (int kind = 0; kind < 6; kind++) {
            PramState x = Check.of(kind, 0, 0);
            boolean[] seen = new boolean[36];
            for (int seed = 0; seed < 500; seed++) {
                int months = monthsOf(next(seed));
                seen[months] = true;
                check.due("kind " + kind + ", seed " + seed, x.dynasties(seed, 1), months + 1 < ages[kind] ? 1 : 0);
            }
            int all = 0;
            for (boolean one : seen) all += one ? 1 : 0;
            check.due("all months were tried", all, 36);
        }
        PramState x = Check.of(0, 0, 0);
        check.due("the last seed", x.dynasties(999999, 1), monthsOf(next(999999)) + 1 < 14 ? 1 : 0);
    }

    /** "X is SEED at first; each time for each INFANT in order": X goes on from one to the next, and from time to time. */
    private static void dynastiesGoOn() {
        for (int infants = 1; infants <= 6; infants++) {
            PramState x = new PramState();
            for (int i = 0; i < infants; i++) x.infant(4, 0, 0);
            long rest = 77;
            int sum = 0;
            for (int n = 1; n <= 60; n++) {
                int who = -1;
                int most = -1;
                for (int i = 0; i < infants; i++) {
                    rest = next(rest);
                    int months = monthsOf(rest) + 1;
                    if (months < 18 && months > most) {
                        most = months;
                        who = i;
                    }
                }
                sum += who + 1;
                check.due(infants + " infants, " + n + " times", x.dynasties(77, n), sum);
            }
        }
    }

    /** Of like ones the first reigns: looked for among the seeds. */
    private static void dynastiesOfLikeOnes() {
        PramState x = Check.of(4, 0, 0, 4, 0, 0);
        int found = 0;
        for (int seed = 0; seed < 9999 && found < 20; seed++) {
            int first = monthsOf(next(seed));
            int second = monthsOf(next(next(seed)));
            if (first != second || first + 1 >= 18) continue;
            found++;
            check.due("like ones by seed " + seed, x.dynasties(seed, 1), 1);
        }
        check.due("such seeds there are", found, 20);
    }

    /** "nobody is RETIRED" there, and here all stays as it is. */
    private static void dynastiesOfTheRetired() {
        PramState x = Check.of(4, 3, 0, 0, 9, 0);
        int free = x.dynasties(7, 60);
        x.retire(0);
        x.month(60);
        check.answered(x, "of the retired", y -> y.dynasties(7, 60), free);
        check.due("they are retired yet", x.count(1), 2);
        check.due("their months stay", x.of(0, 1), 3);
        check.due("there are such times", free > 0 ? 1 : 0, 1);
    }
}
