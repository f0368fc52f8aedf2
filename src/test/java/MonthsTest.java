/** Promises 8 to 12: month, nurse, retire, undo, of. */
public final class MonthsTest {
    private static final Check check = new Check();

    public static void main(String[] args) {
        month();
        walkingAges();
        lastMonth();
        nurse();
        retire();
        undo();
        undoEight();
        of();
        check.end();
    }

    private static void month() {
        PramState x = Check.of(0, 11, 0, 0, 12, 1, 4, 12, 2);
        check.bad(x, "month(0)", y -> y.month(0));
        check.bad(x, "month(-1)", y -> y.month(-1));
        check.bad(x, "month(61)", y -> y.month(61));
        check.due("month(1): of like ones the first", x.month(1), 1);
        check.due("month(1): walks at 14", x.month(1), 2);
        check.due("its months", x.of(1, 1), 14);
        check.due("it is retired", x.of(1, 4), 1);
        check.due("another one's months", x.of(0, 1), 13);
        check.due("month(3)", x.month(3), 2);
        check.due("a retired one's months stay", x.of(1, 1), 14);
        check.due("months stay as one walks", x.of(0, 1), 14);
        check.due("the late one's months", x.of(2, 1), 17);
        check.due("count(2)", x.count(2), 5);
        check.due("count(5): several months are one", x.count(5), 3);
        check.due("month(1): nobody is left", x.month(1), PramState.NONE);
        check.due("month(60) of nobody", x.month(60), PramState.NONE);
        check.due("count(2) behind 60 more", x.count(2), 66);
        check.due("month(60) of no infants", new PramState().month(60), PramState.NONE);
    }

    private static void walkingAges() {
        int[] ages = {14, 14, 14, 11, 18, 14};
        for (int kind = 0; kind < 6; kind++) {
            PramState x = Check.of(kind, ages[kind] - 2, 0);
            check.due("kind " + kind + ", a month ahead of walking", x.month(1), 0);
            check.due("kind " + kind + " walks", x.month(1), PramState.NONE);
            PramState old = Check.of(kind, 35, 0);
            check.due("kind " + kind + " with 35 months reigns", old.reign(0), 0);
            check.due("kind " + kind + " with 35 months walks at once", old.month(2), PramState.NONE);
            check.due("kind " + kind + " has 36 months then", old.of(0, 1), 36);
        }
    }

    private static void lastMonth() {
        PramState x = new PramState();
        for (int k = 0; k < 16; k++) x.month(60);
        x.month(38);
        check.due("count(2)", x.count(2), 998);
        x.month(1);
        check.due("count(2) at the last", x.count(2), 999);
        x.infant(4, 0, 0);
        check.due("month(2) at the last", x.month(2), 0);
        check.due("count(2) stays", x.count(2), 999);
        check.due("months go on", x.of(0, 1), 2);
        check.due("reign(15) beyond 999", x.reign(15), 0);
        check.due("reign(16) beyond 999", x.reign(16), PramState.NONE);
    }

    private static void nurse() {
        PramState x = Check.of(0, 3, 0, 1, 3, 1);
        check.due("nurse(1, 5)", x.nurse(1, 5), 1);
        check.due("nurse(0, 5): several may have one", x.nurse(0, 5), 0);
        check.due("nurse(1, 0)", x.nurse(1, 0), 5);
        check.due("of(0, 3)", x.of(0, 3), 5);
        check.due("of(1, 3)", x.of(1, 3), 0);
        check.due("count(5)", x.count(5), 3);
        check.bad(x, "nurse(2, 0)", y -> y.nurse(2, 0));
        check.bad(x, "nurse(-1, 0)", y -> y.nurse(-1, 0));
        check.bad(x, "nurse(0, -1)", y -> y.nurse(0, -1));
        check.bad(x, "nurse(0, 6)", y -> y.nurse(0, 6));
        x.retire(0);
        check.due("nurse of a retired one", x.nurse(0, 2), 5);
        check.due("nurse again the same", x.nurse(0, 2), 2);
    }

    private static void retire() {
        PramState x = Check.of(0, 9, 0, 1, 3, 1, 2, 5, 2);
        check.due("retire(0)", x.retire(0), 1);
        check.due("reign(0)", x.reign(0), 2);
        check.due("retire(1)", x.retire(1), 2);
        check.no(x, "retire(0) again", y -> y.retire(0));
        check.bad(x, "retire(3)", y -> y.retire(3));
        check.bad(x, "retire(-1)", y -> y.retire(-1));
        check.due("of(0, 4)", x.of(0, 4), 1);
        check.due("of(2, 4)", x.of(2, 4), 0);
        check.due("count(1)", x.count(1), 2);
        check.due("count(5)", x.count(5), 2);
        x.month(2);
        check.due("months of one that was retired", x.of(0, 1), 9);
        check.due("months of one that was not", x.of(2, 1), 7);
    }

    private static void undo() {
        PramState x = Check.of(0, 12, 0, 1, 3, 1);
        x.skill(3, 4);
        long first = x.digest();
        check.due("month(3)", x.month(3), 1);
        x.note(0, 1, 2, 1, 0);
        x.heard(1, 1);
        x.retire(1);
        x.nurse(1, 3);
        check.due("undo() of nurse", x.undo(), 3);
        check.due("of(1, 3)", x.of(1, 3), 1);
        check.due("it is retired yet", x.of(1, 4), 1);
        check.due("undo() of retire", x.undo(), 3);
        check.due("of(1, 4)", x.of(1, 4), 0);
        check.due("of(1, 1)", x.of(1, 1), 6);
        check.due("undo() of month", x.undo(), 0);
        check.due("of(0, 1)", x.of(0, 1), 12);
        check.due("of(0, 4)", x.of(0, 4), 0);
        check.due("of(1, 1)", x.of(1, 1), 3);
        check.no(x, "undo() of none", y -> y.undo());
        check.due("notes stay", x.count(3), 1);
        check.due("heard stays", x.count(4), 1);
        check.due("skills stay", x.skill(3, 4), 4);
        x.forget(0);
        x.forget(1);
        check.due("digest() as at first", x.digest(), first);
    }

    private static void undoEight() {
        PramState x = Check.of(4, 0, 0);
        for (int n = 1; n <= 9; n++) {
            x.month(1);
            check.due("count(5) behind " + n, x.count(5), Math.min(n, 8));
        }
        for (int n = 8; n >= 1; n--) {
            check.due("undo() to " + n, x.undo(), n);
            check.due("months then", x.of(0, 1), n);
        }
        check.no(x, "a 9th undo()", y -> y.undo());
        for (int n = 1; n <= 5; n++) x.nurse(0, n);
        x.undo();
        x.undo();
        x.nurse(0, 0);
        check.due("count(5)", x.count(5), 4);
        check.due("undo() of the newest", x.undo(), 1);
        check.due("its nurse then", x.of(0, 3), 3);
    }

    private static void of() {
        PramState x = Check.ofAllKinds(3);
        int[] ages = {14, 14, 14, 11, 18, 14};
        x.nurse(4, 1);
        x.retire(4);
        for (int i = 0; i < 6; i++) {
            check.due("of(" + i + ", 0)", x.of(i, 0), i);
            check.due("of(" + i + ", 1)", x.of(i, 1), 3);
            check.due("of(" + i + ", 2)", x.of(i, 2), i);
            check.due("of(" + i + ", 3)", x.of(i, 3), i == 4 ? 1 : i);
            check.due("of(" + i + ", 4)", x.of(i, 4), i == 4 ? 1 : 0);
            check.due("of(" + i + ", 5)", x.of(i, 5), ages[i]);
        }
        check.bad(x, "of(0, 6)", y -> y.of(0, 6));
        check.bad(x, "of(0, -1)", y -> y.of(0, -1));
        check.bad(x, "of(6, 0)", y -> y.of(6, 0));
        check.bad(x, "of(-1, 0)", y -> y.of(-1, 0));
        check.bad(new PramState(), "of(0, 0) of none", y -> y.of(0, 0));
    }
}
