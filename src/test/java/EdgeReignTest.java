/** Kinds, the ring of places, who reigns, meets, is nursed and visited: the sentences that name an edge. */
public final class EdgeReignTest {
    private static final Check check = new Check();
    private static final int[] WALK = {14, 14, 14, 11, 18, 14};

    public static void main(String[] args) {
        sleepBegins();
        teetherWakes();
        lateSleeps();
        bearSleeps();
        criesByMonths();
        criesPassAnAge();
        halfOfTheSkill();
        criesAtLeastNothing();
        asleepNothingIsCried();
        ofLikeOnesTheFirst();
        reignsNone();
        reignBehindMonths();
        fallsFirst();
        lineOfHeirs();
        lineOneComesOnce();
        lineOfTheRetired();
        askingChangesNothing();
        ringOfPlaces();
        meetFromHourSeven();
        meetOfTheRetired();
        congressOfMost();
        congressOfLikeOnes();
        nursesOfNobody();
        nursesOfSix();
        nursesFirstWay();
        visitFirstHour();
        check.end();
    }

    private static void asleep(PramState x, int i, int h, int want) {
        check.due("kind " + x.of(i, 0) + " in hour " + h, x.hour(i, h, 0), want);
    }

    /** "h is 19 or more, or below 7, or 12, or 13": each edge and the hour beside it, and 23 next to 0. */
    private static void sleepBegins() {
        PramState x = Check.ofAllKinds(3);
        int[] hours = {6, 7, 11, 13, 18, 19, 22, 23, 0, 1};
        int[] want = {1, 0, 0, 1, 0, 1, 1, 1, 1, 1};
        for (int i = 0; i < 6; i++) {
            for (int k = 0; k < hours.length; k++) asleep(x, i, hours[k], want[k]);
        }
        for (int i : new int[] {0, 1, 3, 5}) {
            asleep(x, i, 12, 1);
            asleep(x, i, 14, 0);
            asleep(x, i, 2, 1);
            asleep(x, i, 3, 1);
        }
    }

    /** "TEETHER: as PLAIN, but not in HOURS 2 and 3". */
    private static void teetherWakes() {
        PramState x = Check.of(2, 3, 0);
        int[] want = {1, 1, 0, 0, 1, 1, 1, 0};
        for (int h = 0; h < want.length; h++) asleep(x, 0, h, want[h]);
    }

    /** "LATE: as PLAIN, but in HOUR 14, not in HOUR 12". */
    private static void lateSleeps() {
        PramState x = Check.of(4, 3, 0);
        int[] want = {0, 0, 1, 1, 0};
        for (int k = 0; k < want.length; k++) asleep(x, 0, 11 + k, want[k]);
    }

    /** "BEAR: as TWIN, and in HOUR 17". */
    private static void bearSleeps() {
        PramState x = Check.of(5, 3, 0);
        int[] want = {1, 1, 0, 0, 0, 1, 0, 1};
        for (int k = 0; k < want.length; k++) asleep(x, 0, 12 + k, want[k]);
    }

    /** "2, 1 more, if m is below 6"; "PLAIN and 3, if m is 6 to 11": at 5, 6, 11, 12, and the first and last. */
    private static void criesByMonths() {
        int[] months = {0, 5, 6, 11, 12, 35};
        int[][] cries = {{3, 3, 2, 2, 2, 2}, {6, 6, 4, 4, 4, 4}, {3, 3, 5, 5, 2, 2}, {3, 3, 2, 2, 2, 2},
            {3, 3, 2, 2, 2, 2}, {5, 5, 3, 3, 3, 3}};
        int[] awake = {10, 10, 12, 10, 10, 9};
        for (int k = 0; k < months.length; k++) {
            PramState x = Check.ofAllKinds(months[k]);
            for (int kind = 0; kind < 6; kind++) {
                check.due("kind " + kind + " with " + months[k] + ": hour 9", x.hour(kind, 9, 1), cries[kind][k]);
                check.due("kind " + kind + " with " + months[k] + ": day", x.day(kind), awake[kind] * cries[kind][k]);
            }
        }
    }

    private static void criesPassAnAge() {
        PramState x = Check.of(2, 5, 0, 0, 5, 0, 2, 35, 0);
        check.due("a teether with 5", x.hour(0, 9, 1), 3);
        x.month(1);
        check.due("a teether with 6", x.hour(0, 9, 1), 5);
        check.due("a plain one with 6", x.hour(1, 9, 1), 2);
        check.due("a teether with 36", x.hour(2, 9, 1), 2);
        x.month(5);
        check.due("a teether with 11", x.hour(0, 9, 1), 5);
        x.month(1);
        check.due("a teether with 12", x.hour(0, 9, 1), 2);
        x.undo();
        check.due("a teether with 11 again", x.hour(0, 9, 1), 5);
    }

    /** "less by half (cut) of the SKILL of one's NURSE": of the nurse one has, odd skills as the even ones below. */
    private static void halfOfTheSkill() {
        PramState x = Check.of(1, 0, 0, 1, 0, 0);
        int[] want = {6, 6, 5, 5, 4, 4, 3, 3, 2, 2};
        for (int s = 0; s <= 9; s++) {
            x.skill(5, s);
            x.nurse(0, 5);
            check.due("with skill " + s, x.hour(0, 9, 1), want[s]);
            check.due("in a day", x.day(0), 10 * want[s]);
            check.due("another nurse's", x.hour(1, 9, 1), 6);
        }
        check.due("a nurse of two", x.nurse(1, 5), 1);
        check.due("is so to both", x.hour(1, 9, 1), 2);
        x.undo();
        check.due("undone", x.hour(1, 9, 1), 6);
    }

    /** "(0 at least)": just above nothing, nothing, and below it were it counted on. */
    private static void criesAtLeastNothing() {
        PramState x = Check.of(0, 0, 0, 0, 6, 0);
        int[] young = {3, 3, 2, 2, 1, 1, 0, 0, 0, 0};
        int[] old = {2, 2, 1, 1, 0, 0, 0, 0, 0, 0};
        x.nurse(1, 0);
        for (int s = 0; s <= 9; s++) {
            x.skill(0, s);
            check.due("a young one with skill " + s, x.hour(0, 9, 1), young[s]);
            check.due("a young one's day with skill " + s, x.day(0), 10 * young[s]);
        }
        x.nurse(1, 0);
        for (int s = 0; s <= 9; s++) {
            x.skill(0, s);
            check.due("an older one with skill " + s, x.hour(1, 9, 1), old[s]);
            check.due("an older one's day with skill " + s, x.day(1), 10 * old[s]);
        }
    }

    /** "CRIES of one in an HOUR (asleep: 0)". */
    private static void asleepNothingIsCried() {
        PramState x = Check.ofAllKinds(3);
        for (int i = 0; i < 6; i++) {
            int sum = 0;
            for (int h = 0; h < 24; h++) {
                int cries = x.hour(i, h, 1);
                sum += cries;
                check.due("kind " + i + ": cries in " + h, cries > 0 ? 1 : 0, 1 - x.hour(i, h, 0));
            }
            check.due("kind " + i + ": a day is its 24 hours", x.day(i), sum);
        }
    }

    /** "that with the most MONTHS; of like ones the first". */
    private static void ofLikeOnesTheFirst() {
        check.due("like ones", Check.of(0, 7, 0, 0, 7, 0, 0, 7, 0).reign(0), 0);
        check.due("one more", Check.of(0, 7, 0, 0, 8, 0, 0, 7, 0).reign(0), 1);
        check.due("like ones behind another", Check.of(0, 7, 0, 0, 8, 0, 0, 8, 0).reign(0), 1);
        check.due("all of 0 months", Check.of(0, 0, 0, 0, 0, 0).reign(0), 0);
        PramState x = Check.of(0, 7, 0, 0, 7, 0, 0, 6, 0);
        x.retire(0);
        check.due("the first is retired", x.reign(0), 1);
        x.retire(1);
        check.due("both are", x.reign(0), 2);
        x.undo();
        x.undo();
        check.due("undone", x.reign(0), 0);
    }

    private static void reignsNone() {
        PramState x = new PramState();
        for (int m : new int[] {0, 1, 60}) check.answered(x, "reign(" + m + ") of none", y -> y.reign(m), -1);
        x.infant(0, 0, 0);
        x.retire(0);
        for (int m : new int[] {0, 1, 60}) check.answered(x, "reign(" + m + ") of the retired", y -> y.reign(m), -1);
    }

    /** "who REIGNS behind m (0 .. 60) MONTHS": the last one in which one does and the first in which it does not. */
    private static void reignBehindMonths() {
        for (int kind = 0; kind < 6; kind++) {
            for (int months : new int[] {0, 1, WALK[kind] - 1}) {
                PramState x = Check.of(kind, months, 0);
                int left = WALK[kind] - months;
                check.due("kind " + kind + ": the last month", x.reign(left - 1), 0);
                check.due("kind " + kind + ": the one behind it", x.reign(left), PramState.NONE);
                check.due("kind " + kind + ": reign(59)", x.reign(59), PramState.NONE);
                check.due("kind " + kind + ": reign(60)", x.reign(60), PramState.NONE);
            }
        }
    }

    /** "in how many (1 .. 60) it is another one, or none, first"; "NONE: not in 60, nobody REIGNS". */
    private static void fallsFirst() {
        check.due("to another one in 1", Check.of(0, 20, 0, 0, 3, 0).falls(), 1);
        check.due("to nobody in 1", Check.of(0, 13, 0).falls(), 1);
        check.due("to nobody in 2", Check.of(0, 12, 0).falls(), 2);
        check.due("to nobody in 18, the longest", Check.of(4, 0, 0).falls(), 18);
        check.due("not when another one walks", Check.of(4, 9, 0, 0, 9, 0).falls(), 9);
        check.due("like ones fall together", Check.of(0, 9, 0, 0, 9, 0).falls(), 5);
        check.answered(new PramState(), "of none", y -> y.falls(), PramState.NONE);
    }

    /** "who does now first"; "behind how many of these 61 it REIGNS": now is one of them. */
    private static void lineOfHeirs() {
        PramState x = Check.of(4, 0, 0);
        check.due("alone: how many", x.line(-1, 0), 1);
        check.due("alone: who", x.line(0, 0), 0);
        check.due("alone: for how many", x.line(0, 1), 18);
        check.answered(x, "alone: line(1, 0)", y -> y.line(1, 0), -5);
        check.answered(x, "alone: line(1, 1)", y -> y.line(1, 1), -5);
        PramState six = Check.of(4, 12, 0, 0, 12, 0, 3, 10, 0, 0, 13, 0, 0, 20, 0, 0, 1, 0);
        // 4 now; then, of those that are left, 0 for four months more (1 has 13, like 0, and 0 is the first); then 5
        int[] who = {4, 0, 5};
        int[] months = {1, 5, 7};
        check.due("six: how many", six.line(-1, 1), 3);
        for (int i = 0; i < 3; i++) {
            check.due("six: line(" + i + ", 0)", six.line(i, 0), who[i]);
            check.due("six: line(" + i + ", 1)", six.line(i, 1), months[i]);
        }
        for (int i : new int[] {3, 4, 5, 6, 60, Integer.MAX_VALUE}) {
            check.answered(six, "six: line(" + i + ", 0)", y -> y.line(i, 0), -5);
        }
    }

    /** "one comes once": the months of all together are those in which somebody reigns. */
    private static void lineOneComesOnce() {
        PramState x = Check.of(3, 10, 0, 0, 12, 0, 4, 11, 0, 0, 9, 0, 4, 5, 0, 0, 0, 0);
        int heirs = x.line(-1, 0);
        int sum = 0;
        int seen = 0;
        for (int i = 0; i < heirs; i++) {
            sum += x.line(i, 1);
            seen |= 1 << x.line(i, 0);
        }
        int reigned = 0;
        for (int m = 0; m <= 60; m++) {
            if (x.reign(m) != PramState.NONE) reigned++;
        }
        check.due("each comes once", Integer.bitCount(seen), heirs);
        check.due("all months are told", sum, reigned);
        check.due("line(0, 0) is who does now", x.line(0, 0), x.reign(0));
        check.due("line(0, 1) is till it falls", x.line(0, 1), x.falls());
        check.due("how many", heirs, 4);
        PramState all = Check.of(4, 0, 0, 0, 1, 0, 3, 2, 0, 0, 8, 0, 4, 16, 0, 0, 17, 0);
        check.due("six infants, six heirs: how many", all.line(-1, 0), 6);
        int[] who = {5, 4, 3, 2, 1, 0};
        int[] months = {1, 1, 4, 3, 4, 5};
        for (int i = 0; i < 6; i++) {
            check.due("six heirs: line(" + i + ", 0)", all.line(i, 0), who[i]);
            check.due("six heirs: line(" + i + ", 1)", all.line(i, 1), months[i]);
        }
        check.answered(all, "six heirs: line(6, 0)", y -> y.line(6, 0), -5);
    }

    private static void lineOfTheRetired() {
        PramState x = Check.of(0, 9, 0, 0, 3, 0);
        x.retire(0);
        check.due("how many", x.line(-1, 0), 1);
        check.due("who", x.line(0, 0), 1);
        check.due("for how many", x.line(0, 1), 11);
        x.retire(1);
        check.answered(x, "none", y -> y.line(-1, 0), 0);
        check.answered(x, "line(0, 1) of none", y -> y.line(0, 1), -5);
        check.answered(new PramState(), "line(-1, 1) of no infants", y -> y.line(-1, 1), 0);
    }

    /** "(Nothing is changed by these ..)". */
    private static void askingChangesNothing() {
        Check.Call[] asks = {x -> x.hour(1, 9, 1), x -> x.day(1), x -> x.reign(60), x -> x.falls(), x -> x.line(0, 1),
            x -> x.meet(0, 1), x -> x.congress(0), x -> x.nurses(1), x -> x.visit(), x -> x.is(0), x -> x.listen(0),
            x -> x.which(), x -> x.powers(9), x -> x.dynasties(5, 60), x -> x.part(0), x -> x.of(1, 1), x -> x.count(5),
            x -> x.status(0), x -> x.digest()};
        for (int k = 0; k < asks.length; k++) {
            PramState x = Courts.full();
            long want = asks[k].on(x);
            check.leavesAll(Courts::full, -1, "ask " + k, asks[k], want);
            check.due("ask " + k + " again", asks[k].on(x), want);
        }
    }

    /** "in a ring (5 next to 0): FAR: the fewer steps round (0 .. 3)": by the hour in which two can meet. */
    private static void ringOfPlaces() {
        int[] far = {0, 1, 2, 3, 2, 1};
        for (int a = 0; a < 6; a++) {
            for (int b = 0; b < 6; b++) {
                int steps = far[(b - a + 6) % 6];
                PramState x = Check.of(0, 0, a, 0, 0, b);
                check.due("homes " + a + ", " + b + ": the hour", x.meet(0, 1) / 10, 7 + (steps + 1) / 2);
                check.due("homes " + a + ", " + b + ": congress", x.congress(0), x.meet(0, 1));
            }
        }
        check.due("5 next to 0", Check.of(0, 0, 5, 0, 0, 0).meet(0, 1), 80);
        check.due("4 and 0 meet in 5", Check.of(0, 0, 4, 0, 0, 0).meet(0, 1), 85);
        check.due("5 and 1 meet in 0", Check.of(0, 0, 5, 0, 0, 1).meet(0, 1), 80);
        check.due("5 and 2, three apart either way", Check.of(0, 0, 5, 0, 0, 2).meet(0, 1), 90);
        check.due("4 and 1, three apart either way", Check.of(0, 0, 4, 0, 0, 1).meet(0, 1), 90);
        check.due("3 and 0, three apart either way", Check.of(0, 0, 3, 0, 0, 0).meet(0, 1), 91);
    }

    /** "setting out from HOME as it wakes, in HOUR 7": also those who are awake in hours 2 and 3. */
    private static void meetFromHourSeven() {
        for (int home = 0; home < 6; home++) {
            check.due("two teethers at home " + home, Check.of(2, 3, home, 2, 3, home).meet(0, 1), 70 + home);
            check.due("a teether's own congress at " + home, Check.of(2, 3, home).congress(0), 70 + home);
        }
        check.due("two teethers three apart", Check.of(2, 3, 1, 2, 3, 4).meet(0, 1), 90);
        for (int a = 0; a < 6; a++) {
            for (int b = 0; b < 6; b++) check.due("kinds " + a + ", " + b, Check.of(a, 3, 1, b, 3, 2).meet(0, 1), 81);
        }
    }

    private static void meetOfTheRetired() {
        PramState x = Check.of(0, 13, 0, 0, 3, 0, 0, 4, 1);
        check.due("ahead of walking", x.meet(0, 1), 70);
        x.month(1);
        check.no(x, "one walks", y -> y.meet(0, 1));
        check.no(x, "one walks, the other way", y -> y.meet(1, 0));
        check.answered(x, "two that do not", y -> y.meet(1, 2), 80);
        x.undo();
        check.due("undone", x.meet(0, 1), 70);
    }

    /** "the HOUR (7 .. 23) and the PLACE where most that are not RETIRED can be so .. how many". */
    private static void congressOfMost() {
        PramState x = new PramState();
        int[] where = {70, 80, 81, 90, 90, 90, 100};
        int[] homes = {0, 1, 2, 4, 5, 4};
        int[] want = {70, 80, 81, 90, 90, 90};
        for (int i = 0; i < 6; i++) {
            x.infant(i, 3, homes[i]);
            check.answered(x, "congress(0) of " + (i + 1), y -> y.congress(0), want[i]);
            check.answered(x, "congress(1) of " + (i + 1), y -> y.congress(1), i + 1);
        }
        check.due("all six from all places", Check.ofAllKinds(3).congress(0), where[6]);
        for (int i = 0; i < 6; i++) x.retire(i);
        check.answered(x, "congress(0) of nobody", y -> y.congress(0), PramState.NONE);
        check.answered(x, "congress(1) of nobody", y -> y.congress(1), PramState.NONE);
        x.undo();
        check.due("congress(0) of the last one", x.congress(0), 74);
        check.due("congress(1) of the last one", x.congress(1), 1);
    }

    /** "of like ones the least": the hour ahead of the place. */
    private static void congressOfLikeOnes() {
        check.due("5, 5, 1, 1: two in hour 7, all in hour 8", Check.of(0, 3, 5, 0, 3, 5, 0, 3, 1, 0, 3, 1).congress(0), 80);
        check.due("3, 3, 0, 0: all in hour 9, the least place", Check.of(0, 3, 3, 0, 3, 3, 0, 3, 0, 0, 3, 0).congress(0), 91);
        check.due("5 and 4 in hour 8, the least place", Check.of(0, 3, 5, 0, 3, 4).congress(0), 84);
        check.due("5, 5: hour 7 in place 5, not hour 8 in place 0", Check.of(0, 3, 5, 0, 3, 5).congress(0), 75);
    }

    /** "how much (i = NONE; 0: nobody), whose NURSE. NONE. BAD: -10." */
    private static void nursesOfNobody() {
        check.answered(new PramState(), "nurses(-1) of none", y -> y.nurses(-1), 0);
        check.refused(new PramState(), 0, "nurses(0) of none", y -> y.nurses(0), -10);
        PramState x = Check.of(0, 3, 0);
        check.due("nurses(-1) of one", x.nurses(-1), 30);
        check.due("nurses(0) of one", x.nurses(0), 0);
        x.retire(0);
        check.answered(x, "nurses(-1) of the retired", y -> y.nurses(-1), 0);
        check.answered(x, "nurses(0) of the retired", y -> y.nurses(0), PramState.NONE);
        check.refused(x, 0, "nurses(1)", y -> y.nurses(1), -10);
        check.refused(x, 0, "nurses(-2)", y -> y.nurses(-2), -10);
    }

    /** "unlike ones": six infants take all six nurses; a retired one takes none. */
    private static void nursesOfSix() {
        PramState x = Check.of(0, 6, 0, 0, 6, 0, 0, 6, 0, 0, 6, 0, 0, 6, 0, 1, 0, 0);
        x.skill(0, 9);
        x.skill(1, 9);
        // the twin cries 6 in an hour, 2 with skill 9; a plain one 2, then 0
        check.due("least of all six", x.nurses(-1), 20 + 0 + 4 * 20);
        int taken = 0;
        for (int i = 0; i < 6; i++) taken |= 1 << x.nurses(i);
        check.due("all six nurses", taken, 63);
        check.due("the first one has the first way's", x.nurses(0), 0);
        check.due("the twin has the other", x.nurses(5), 1);
        int[] rest = {2, 3, 4, 5};
        for (int i = 1; i <= 4; i++) check.due("nurses(" + i + ")", x.nurses(i), rest[i - 1]);
        x.retire(0);
        check.due("without the first one", x.nurses(-1), 20 + 0 + 3 * 20);
        check.due("its nurse is the next one's", x.nurses(1), 0);
        check.due("it has none", x.nurses(0), PramState.NONE);
    }

    /** "in the first such way (by INFANTS, NURSES rising)". */
    private static void nursesFirstWay() {
        PramState x = Check.of(0, 0, 0, 0, 0, 0, 0, 0, 0);
        x.skill(3, 6);
        x.skill(5, 7);
        // 3 and 5 do alike: the first infant takes 0, as two others may have them
        check.due("least", x.nurses(-1), 30);
        int[] want = {0, 3, 5};
        for (int i = 0; i < 3; i++) check.due("nurses(" + i + ")", x.nurses(i), want[i]);
        x.skill(1, 6);
        int[] all = {1, 3, 5};
        check.due("least, with a third one", x.nurses(-1), 0);
        for (int i = 0; i < 3; i++) check.due("with a third one: nurses(" + i + ")", x.nurses(i), all[i]);
    }

    /** "the HOUR .. in which who REIGNS is awake, CRIES least; of like ones the first; none: nobody REIGNS". */
    private static void visitFirstHour() {
        int[] first = {7, 7, 2, 7, 7, 7};
        for (int kind = 0; kind < 6; kind++) {
            PramState x = Check.of(kind, 3, 0);
            check.due("kind " + kind, x.visit(), first[kind]);
            x.skill(0, 9);
            check.due("kind " + kind + ", who cries less", x.visit(), first[kind]);
            x.month(60);
            check.answered(x, "kind " + kind + ", who walks", y -> y.visit(), PramState.NONE);
        }
        check.answered(new PramState(), "none", y -> y.visit(), PramState.NONE);
        check.due("of like ones the first reigns", Check.of(2, 3, 0, 0, 3, 0).visit(), 2);
        check.due("of like ones the first reigns", Check.of(0, 3, 0, 2, 3, 0).visit(), 7);
        check.due("who reigns now, though it walks next", Check.of(0, 3, 0, 2, 13, 0).visit(), 2);
        check.due("who reigns now, though it should walk", Check.of(2, 3, 0, 0, 35, 0).visit(), 7);
    }
}
