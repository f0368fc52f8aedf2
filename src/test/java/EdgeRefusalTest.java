import java.util.function.Supplier;

/** "Refused, changing nothing but STATUS, the first of: BAD ..; NO ..; FULL": the order, and what is counted. */
public final class EdgeRefusalTest {
    private static final Check check = new Check();

    public static void main(String[] args) {
        badAheadOfNo();
        badAheadOfFull();
        noAlone();
        fullAlone();
        othersCountAsThese();
        answersThatAreNotRefused();
        statusCountsItself();
        statusStays();
        statusOfMany();
        check.end();
    }

    private static void bad(Supplier<PramState> court, String call, Check.Call asked) {
        check.leavesAll(court, 0, call, asked, PramState.BAD);
    }

    private static void no(Supplier<PramState> court, String call, Check.Call asked) {
        check.leavesAll(court, 1, call, asked, PramState.NO);
    }

    private static void full(Supplier<PramState> court, String call, Check.Call asked) {
        check.leavesAll(court, 2, call, asked, PramState.FULL);
    }

    private static void free(Supplier<PramState> court, String call, Check.Call asked, long want) {
        check.leavesAll(court, -1, call, asked, want);
    }

    /** Two infants that are both retired, and a third one that is not. */
    private static PramState retired() {
        PramState x = Check.of(0, 9, 1, 1, 5, 4, 2, 3, 2);
        x.retire(0);
        x.retire(1);
        return x;
    }

    private static PramState nobodyReigns() {
        PramState x = Courts.two();
        x.month(60);
        return x;
    }

    private static void badAheadOfNo() {
        bad(EdgeRefusalTest::retired, "meet of a retired one and itself", x -> x.meet(0, 0));
        bad(EdgeRefusalTest::retired, "meet of a retired one and one that is not there", x -> x.meet(0, 3));
        bad(EdgeRefusalTest::retired, "meet of one that is not there and a retired one", x -> x.meet(3, 0));
        bad(EdgeRefusalTest::retired, "meet of one that is not there, -1, and a retired one", x -> x.meet(-1, 1));
        bad(EdgeRefusalTest::nobodyReigns, "walks(10, 0) of nobody", x -> x.walks(10, 0));
        bad(EdgeRefusalTest::nobodyReigns, "walks(-1, 0) of nobody", x -> x.walks(-1, 0));
        bad(EdgeRefusalTest::nobodyReigns, "walks(0, 11) of nobody", x -> x.walks(0, 11));
        bad(EdgeRefusalTest::nobodyReigns, "walks(0, -1) of nobody", x -> x.walks(0, -1));
        bad(Courts::empty, "walks(10, 11) of none", x -> x.walks(10, 11));
        bad(Courts::empty, "from(2) when none was kept", x -> x.from(2));
        bad(Courts::empty, "from(-1) when none was kept", x -> x.from(-1));
        bad(EdgeRefusalTest::retired, "retire of one that is not there", x -> x.retire(3));
    }

    private static void badAheadOfFull() {
        bad(Courts::full, "infant, KIND", x -> x.infant(-1, 0, 0));
        bad(Courts::full, "infant, MONTHS", x -> x.infant(0, 36, 0));
        bad(Courts::full, "infant, HOME", x -> x.infant(0, 0, 6));
        bad(Courts::full, "type(128)", x -> x.type(128));
        bad(Courts::full, "type(-1)", x -> x.type(-1));
        bad(Courts::full, "note, INFANT", x -> x.note(6, 0, 0, 0, 0));
        bad(Courts::full, "note, MONTHS", x -> x.note(0, 36, 0, 0, 0));
        bad(Courts::full, "note, HOUR", x -> x.note(0, 0, 24, 0, 0));
        bad(Courts::full, "note, SLEPT", x -> x.note(0, 0, 0, 2, 0));
        bad(Courts::full, "note, CRIED", x -> x.note(0, 0, 0, 0, 21));
        bad(Courts::full, "heard, INFANT", x -> x.heard(6, 0));
        bad(Courts::full, "heard, awake", x -> x.heard(0, 2));
    }

    private static void noAlone() {
        no(EdgeRefusalTest::retired, "retire(0)", x -> x.retire(0));
        no(EdgeRefusalTest::retired, "retire(1)", x -> x.retire(1));
        no(EdgeRefusalTest::retired, "meet(0, 1), both retired", x -> x.meet(0, 1));
        no(EdgeRefusalTest::retired, "meet(0, 2), the first one retired", x -> x.meet(0, 2));
        no(EdgeRefusalTest::retired, "meet(2, 0), the second one retired", x -> x.meet(2, 0));
        no(EdgeRefusalTest::nobodyReigns, "meet(0, 1) of those who walk", x -> x.meet(0, 1));
        no(EdgeRefusalTest::nobodyReigns, "walks(0, 0) of nobody", x -> x.walks(0, 0));
        no(EdgeRefusalTest::nobodyReigns, "walks(9, 10) of nobody", x -> x.walks(9, 10));
        no(Courts::empty, "walks(0, 0) of none", x -> x.walks(0, 0));
        no(Courts::empty, "undo() of none", x -> x.undo());
        no(Courts::empty, "from(0) of none", x -> x.from(0));
        no(Courts::empty, "from(1) of none", x -> x.from(1));
        no(Courts::two, "from(1) when image 0 was kept", x -> x.from(1));
    }

    private static void fullAlone() {
        full(Courts::full, "infant(0, 0, 0)", x -> x.infant(0, 0, 0));
        full(Courts::full, "infant(5, 35, 5)", x -> x.infant(5, 35, 5));
        full(Courts::full, "type(0)", x -> x.type(0));
        full(Courts::full, "type(127)", x -> x.type(127));
        full(Courts::full, "note(0, 0, 0, 0, 0)", x -> x.note(0, 0, 0, 0, 0));
        full(Courts::full, "note(5, 35, 23, 1, 20)", x -> x.note(5, 35, 23, 1, 20));
        full(Courts::full, "heard(0, 0)", x -> x.heard(0, 0));
        full(Courts::full, "heard(5, 1)", x -> x.heard(5, 1));
    }

    /** "(where others are told they count as these)": -10 of line and nurses, -1 of status. */
    private static void othersCountAsThese() {
        check.leavesAll(Courts::two, 0, "line(-2, 0)", x -> x.line(-2, 0), -10);
        check.leavesAll(Courts::two, 0, "line(0, 2)", x -> x.line(0, 2), -10);
        check.leavesAll(Courts::two, 0, "line(9, -1)", x -> x.line(9, -1), -10);
        check.leavesAll(Courts::two, 0, "nurses(-2)", x -> x.nurses(-2), -10);
        check.leavesAll(Courts::two, 0, "nurses(2)", x -> x.nurses(2), -10);
        check.leavesAll(Courts::empty, 0, "nurses(0) of none", x -> x.nurses(0), -10);
        check.leavesAll(Courts::two, 0, "status(3)", x -> x.status(3), -1);
        check.leavesAll(Courts::two, 0, "status(-1)", x -> x.status(-1), -1);
        check.leavesAll(Courts::two, 0, "part(2)", x -> x.part(2), -2);
        check.leavesAll(Courts::two, 0, "part(-1)", x -> x.part(-1), -2);
    }

    /** NONE, -5, a FAULT, 0 are answers, none of them "told so" as BAD, NO or FULL. */
    private static void answersThatAreNotRefused() {
        free(Courts::empty, "reign(0) of none", x -> x.reign(0), -1);
        free(Courts::empty, "falls() of none", x -> x.falls(), -1);
        free(Courts::empty, "line(-1, 0) of none", x -> x.line(-1, 0), 0);
        free(Courts::empty, "line(0, 0) of none", x -> x.line(0, 0), -5);
        free(Courts::two, "line(0, 0): the last that is there", x -> x.line(0, 0), 0);
        free(Courts::two, "line(1, 0): not so many", x -> x.line(1, 0), -5);
        free(Courts::two, "line(1, 1): not so many", x -> x.line(1, 1), -5);
        free(Courts::two, "line(5, 0): not so many", x -> x.line(5, 0), -5);
        free(Courts::empty, "congress(0) of none", x -> x.congress(0), -1);
        free(Courts::empty, "congress(1) of none", x -> x.congress(1), -1);
        free(Courts::empty, "nurses(-1) of none", x -> x.nurses(-1), 0);
        free(Courts::full, "nurses(3) of a retired one", x -> x.nurses(3), -1);
        free(Courts::empty, "visit() of none", x -> x.visit(), -1);
        free(Courts::empty, "which() of nothing", x -> x.which(), (1 << 24) - 1);
        free(Courts::empty, "powers(0) of nobody", x -> x.powers(0), 15);
        free(Courts::empty, "read() of an empty text", x -> x.read(), -10);
        free(Courts::empty, "clear() of an empty text", x -> x.clear(), 0);
        free(Courts::empty, "court() of none", x -> x.court(), 0);
        free(Courts::empty, "dynasties(0, 0) of none", x -> x.dynasties(0, 0), 0);
        free(Courts::empty, "forget(0) of none", x -> x.forget(0), 0);
        free(Courts::empty, "forget(1) of none", x -> x.forget(1), 0);
        PramState x = Courts.two();
        x.note(1, 9, 0, 0, 20);
        check.answered(x, "is(1), nothing fits", y -> y.is(1), 0);
        check.answered(x, "listen(1), nothing fits", y -> y.listen(1), -1);
        x.month(60);
        check.answeredAnew(x, "month(1), nobody reigns", y -> y.month(1), -1);
    }

    /** "-1: another what (counts as BAD)": each time one more; a what that is told adds nothing. */
    private static void statusCountsItself() {
        PramState x = new PramState();
        for (int n = 0; n < 3; n++) {
            check.due("status(0)", x.status(0), n);
            check.due("status(1)", x.status(1), 0);
            check.due("status(2)", x.status(2), 0);
            check.due("another what", x.status(n == 0 ? 3 : n == 1 ? -1 : Integer.MIN_VALUE), -1);
        }
        check.due("status(0) at last", x.status(0), 3);
    }

    /** STATUS is kept by none of court, read, image, from, undo, clear, forget, and none of them begins it anew. */
    private static void statusStays() {
        PramState x = Courts.full();
        x.image(0);
        for (int k = 0; k < 3; k++) x.month(0);
        for (int k = 0; k < 2; k++) x.retire(3);
        x.infant(0, 0, 0);
        x.undo();
        x.from(0);
        x.from(1);
        x.image(1);
        x.read();
        x.forget(0);
        x.forget(1);
        x.clear();
        x.court();
        x.walks(10, 0);
        check.due("BAD", x.status(0), 4);
        check.due("NO", x.status(1), 2);
        check.due("FULL", x.status(2), 1);
    }

    /** Every call of an object's 512 may be one that is refused. */
    private static void statusOfMany() {
        PramState x = new PramState();
        for (int k = 0; k < 200; k++) x.month(0);
        for (int k = 0; k < 150; k++) x.undo();
        for (int i = 0; i < 106; i++) x.infant(0, 0, 0);
        check.due("200 were BAD", x.status(0), 200);
        check.due("150 were NO", x.status(1), 150);
        check.due("100 were FULL", x.status(2), 100);
    }
}
