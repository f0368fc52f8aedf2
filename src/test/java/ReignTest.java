/** Promises 13 to 21: hour, day, reign, falls, line, meet, congress, nurses, visit. */
public final class ReignTest {
    private static final Check check = new Check();
    /** The hours in which each kind is awake, written out from the document. */
    private static final int[][] AWAKE = {
        {7, 8, 9, 10, 11, 14, 15, 16, 17, 18},
        {7, 8, 9, 10, 11, 14, 15, 16, 17, 18},
        {2, 3, 7, 8, 9, 10, 11, 14, 15, 16, 17, 18},
        {7, 8, 9, 10, 11, 14, 15, 16, 17, 18},
        {7, 8, 9, 10, 11, 12, 15, 16, 17, 18},
        {7, 8, 9, 10, 11, 14, 15, 16, 18},
    };
    /** What each kind cries in an hour awake, with 0, 5, 6, 11, 12 and 35 months. */
    private static final int[] AGES = {0, 5, 6, 11, 12, 35};
    private static final int[][] CRIES = {
        {3, 3, 2, 2, 2, 2},
        {6, 6, 4, 4, 4, 4},
        {3, 3, 5, 5, 2, 2},
        {3, 3, 2, 2, 2, 2},
        {3, 3, 2, 2, 2, 2},
        {5, 5, 3, 3, 3, 3},
    };

    public static void main(String[] args) {
        hourAndDay();
        hourWithNurses();
        reign();
        falls();
        line();
        meet();
        congress();
        nurses();
        visit();
        check.end();
    }

    private static boolean awake(int kind, int h) {
        for (int hour : AWAKE[kind]) {
            if (hour == h) return true;
        }
        return false;
    }

    private static void hourAndDay() {
        for (int a = 0; a < AGES.length; a++) {
            PramState x = Check.ofAllKinds(AGES[a]);
            for (int kind = 0; kind < 6; kind++) {
                for (int h = 0; h < 24; h++) {
                    String call = "kind " + kind + ", months " + AGES[a] + ": hour " + h;
                    check.due(call + ", 0", x.hour(kind, h, 0), awake(kind, h) ? 0 : 1);
                    check.due(call + ", 1", x.hour(kind, h, 1), awake(kind, h) ? CRIES[kind][a] : 0);
                }
                check.due("kind " + kind + ", months " + AGES[a] + ": day",
                    x.day(kind), AWAKE[kind].length * CRIES[kind][a]);
            }
        }
        PramState x = Check.of(0, 0, 0);
        check.bad(x, "hour(-1, 0, 0)", y -> y.hour(-1, 0, 0));
        check.bad(x, "hour(1, 0, 0)", y -> y.hour(1, 0, 0));
        check.bad(x, "hour(0, -1, 0)", y -> y.hour(0, -1, 0));
        check.bad(x, "hour(0, 24, 0)", y -> y.hour(0, 24, 0));
        check.bad(x, "hour(0, 0, -1)", y -> y.hour(0, 0, -1));
        check.bad(x, "hour(0, 0, 2)", y -> y.hour(0, 0, 2));
        check.bad(x, "day(-1)", y -> y.day(-1));
        check.bad(x, "day(1)", y -> y.day(1));
        check.answered(x, "day(0)", y -> y.day(0), 30);
        x.month(20);
        check.due("day of a retired one with 14 months", x.day(0), 20);
    }

    private static void hourWithNurses() {
        int[] halves = {0, 0, 1, 1, 2, 2, 3, 3, 4, 4};
        PramState x = Check.of(1, 0, 0, 5, 9, 0);
        for (int s = 0; s <= 9; s++) {
            x.skill(0, s);
            check.due("a twin's crying with skill " + s, x.hour(0, 9, 1), 6 - halves[s]);
            check.due("a twin's day with skill " + s, x.day(0), 10 * (6 - halves[s]));
            check.due("another nurse's: a bear's crying", x.hour(1, 9, 1), 3);
        }
        x.nurse(1, 0);
        check.due("crying is 0 at least", x.hour(1, 9, 1), 0);
        check.due("a day's is 0 at least", x.day(1), 0);
        x.nurse(0, 3);
        check.due("a nurse without skill", x.day(0), 60);
    }

    private static void reign() {
        PramState x = Check.of(3, 9, 0, 0, 9, 0, 4, 9, 0, 1, 20, 0, 2, 21, 0);
        x.retire(4);
        int[] who = {3, 0, 1, 1, 1, 2, 2, 2, 2, -1};
        for (int m = 0; m < who.length; m++) check.due("reign(" + m + ")", x.reign(m), who[m]);
        check.due("reign(60)", x.reign(60), PramState.NONE);
        check.due("reign changes nothing", x.of(0, 1), 9);
        check.due("reign changes nothing", x.count(2), 0);
        check.bad(x, "reign(-1)", y -> y.reign(-1));
        check.bad(x, "reign(61)", y -> y.reign(61));
        check.due("reign(0) of none", new PramState().reign(0), PramState.NONE);
        check.due("the oldest, not the first", Check.of(0, 3, 0, 0, 4, 0, 0, 4, 0).reign(0), 1);
    }

    private static void falls() {
        check.due("falls() of none", new PramState().falls(), PramState.NONE);
        check.due("falls() to nobody", Check.of(4, 0, 0).falls(), 18);
        check.due("falls() to another", Check.of(0, 5, 0, 4, 5, 0).falls(), 9);
        check.due("falls() in one", Check.of(0, 13, 0).falls(), 1);
        PramState x = Check.of(0, 5, 0);
        x.retire(0);
        check.answered(x, "falls() when nobody reigns", y -> y.falls(), PramState.NONE);
    }

    private static void line() {
        PramState x = Check.of(3, 9, 0, 0, 9, 0, 4, 9, 0, 1, 20, 0, 2, 21, 0);
        x.retire(4);
        int[] who = {3, 0, 1, 2};
        int[] months = {1, 1, 3, 4};
        check.due("line(-1, 0)", x.line(-1, 0), 4);
        check.due("line(-1, 1)", x.line(-1, 1), 4);
        for (int i = 0; i < 4; i++) {
            check.due("line(" + i + ", 0)", x.line(i, 0), who[i]);
            check.due("line(" + i + ", 1)", x.line(i, 1), months[i]);
        }
        check.answered(x, "line(4, 0)", y -> y.line(4, 0), -5);
        check.answered(x, "line(4, 1)", y -> y.line(4, 1), -5);
        check.answered(x, "line of a far one", y -> y.line(Integer.MAX_VALUE, 0), -5);
        check.refused(x, 0, "line(-2, 0)", y -> y.line(-2, 0), -10);
        check.refused(x, 0, "line(0, 2)", y -> y.line(0, 2), -10);
        check.refused(x, 0, "line(0, -1)", y -> y.line(0, -1), -10);
        check.refused(x, 0, "line(-1, 2)", y -> y.line(-1, 2), -10);
        check.answered(new PramState(), "line(-1, 0) of none", y -> y.line(-1, 0), 0);
        check.answered(new PramState(), "line(0, 0) of none", y -> y.line(0, 0), -5);
        PramState six = Check.of(4, 0, 0, 0, 1, 0, 3, 2, 0, 1, 8, 0, 2, 15, 0, 5, 25, 0);
        int[] order = {5, 3, 2, 1, 0};
        int[] spans = {1, 5, 3, 4, 5};
        check.due("six: line(-1, 0)", six.line(-1, 0), 5);
        for (int i = 0; i < 5; i++) {
            check.due("six: line(" + i + ", 0)", six.line(i, 0), order[i]);
            check.due("six: line(" + i + ", 1)", six.line(i, 1), spans[i]);
        }
    }

    private static void meet() {
        // homes three steps apart meet at the least of the places that both reach in hour 9
        int[][] want = {
            {70, 80, 81, 91, 85, 80},
            {80, 71, 81, 82, 90, 80},
            {81, 81, 72, 82, 83, 90},
            {91, 82, 82, 73, 83, 84},
            {85, 90, 83, 83, 74, 84},
            {80, 80, 90, 84, 84, 75},
        };
        for (int a = 0; a < 6; a++) {
            for (int b = 0; b < 6; b++) {
                PramState x = Check.of(0, 0, a, 5, 3, b);
                check.due("homes " + a + ", " + b + ": meet(0, 1)", x.meet(0, 1), want[a][b]);
                check.due("homes " + a + ", " + b + ": meet(1, 0)", x.meet(1, 0), want[a][b]);
            }
        }
        PramState x = Check.of(0, 0, 0, 0, 1, 0, 0, 2, 0);
        x.retire(2);
        check.bad(x, "meet(0, 0)", y -> y.meet(0, 0));
        check.bad(x, "meet(2, 2)", y -> y.meet(2, 2));
        check.bad(x, "meet(0, 3)", y -> y.meet(0, 3));
        check.bad(x, "meet(3, 2)", y -> y.meet(3, 2));
        check.bad(x, "meet(-1, 0)", y -> y.meet(-1, 0));
        check.no(x, "meet(0, 2)", y -> y.meet(0, 2));
        check.no(x, "meet(2, 0)", y -> y.meet(2, 0));
        check.answered(x, "meet(0, 1)", y -> y.meet(0, 1), 70);
    }

    private static void congress() {
        congressOf(Check.of(0, 0, 3), 73, 1);
        congressOf(Check.of(0, 0, 3, 0, 0, 1), 82, 2);
        congressOf(Check.of(0, 0, 4, 0, 0, 4, 1, 1, 1), 90, 3);
        congressOf(Check.of(0, 0, 4, 0, 0, 5, 1, 1, 0), 85, 3);
        congressOf(Check.ofAllKinds(3), 100, 6);
        PramState x = Check.of(0, 0, 4, 0, 0, 5, 1, 1, 0);
        x.retire(1);
        x.retire(0);
        congressOf(x, 70, 1);
        x.retire(2);
        congressOf(x, -1, -1);
        congressOf(new PramState(), -1, -1);
        check.bad(x, "congress(-1)", y -> y.congress(-1));
        check.bad(x, "congress(2)", y -> y.congress(2));
    }

    private static void congressOf(PramState x, int where, int most) {
        check.answered(x, "congress(0)", y -> y.congress(0), where);
        check.answered(x, "congress(1)", y -> y.congress(1), most);
    }

    private static void nurses() {
        PramState x = Check.of(0, 0, 0, 1, 0, 0);
        check.due("all without skill: least", x.nurses(-1), 90);
        check.due("all without skill: the first ones", x.nurses(0), 0);
        check.due("all without skill: the first ones", x.nurses(1), 1);
        x.skill(4, 9);
        x.skill(2, 6);
        // 3 less 3 for the plain one and 6 less 4 for the twin
        check.due("least", x.nurses(-1), 20);
        check.due("nurses(0)", x.nurses(0), 2);
        check.due("nurses(1)", x.nurses(1), 4);
        x.skill(5, 8);
        check.due("of like ones the first way", x.nurses(1), 4);
        x.skill(0, 9);
        check.due("the first way, by infants ahead", x.nurses(0), 0);
        check.due("the first way, then by nurses", x.nurses(1), 4);
        check.due("least then", x.nurses(-1), 20);
        check.due("their own nurses stay", x.of(1, 3), 1);
        x.retire(0);
        check.answered(x, "nurses of a retired one", y -> y.nurses(0), PramState.NONE);
        check.due("the other one then", x.nurses(1), 0);
        check.due("least without the retired one", x.nurses(-1), 20);
        x.retire(1);
        check.answered(x, "nurses(-1) of nobody", y -> y.nurses(-1), 0);
        check.answered(new PramState(), "nurses(-1) of none", y -> y.nurses(-1), 0);
        check.refused(x, 0, "nurses(2)", y -> y.nurses(2), -10);
        check.refused(x, 0, "nurses(-2)", y -> y.nurses(-2), -10);
        check.refused(new PramState(), 0, "nurses(0) of none", y -> y.nurses(0), -10);
    }

    private static void visit() {
        int[] first = {7, 7, 2, 7, 7, 7};
        for (int kind = 0; kind < 6; kind++) {
            PramState x = Check.of(0, 0, 0, kind, 9, 0);
            check.answered(x, "visit() to kind " + kind, y -> y.visit(), first[kind]);
        }
        check.due("visit() to one who walks in the next month", Check.of(0, 1, 0, 2, 13, 0).visit(), 2);
        check.due("visit() to one who walks in the next month, alone", Check.of(2, 13, 0).visit(), 2);
        PramState x = Check.of(2, 3, 0, 0, 9, 0);
        check.due("visit() to who reigns", x.visit(), 7);
        x.retire(1);
        check.due("visit() to the next one", x.visit(), 2);
        x.retire(0);
        check.answered(x, "visit() to nobody", y -> y.visit(), PramState.NONE);
        check.answered(new PramState(), "visit() of none", y -> y.visit(), PramState.NONE);
    }
}
