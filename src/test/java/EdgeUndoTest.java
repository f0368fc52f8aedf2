import java.util.ArrayList;
import java.util.List;

/** What is undone, how far, and what makes way: the sentence UNDO, at its edges. */
public final class EdgeUndoTest {
    private static final Check check = new Check();

    public static void main(String[] args) {
        noneMayBe();
        eightAtMost();
        theOldestMakesWay();
        eightOfEachKind();
        monthsTogetherAreOne();
        whatIsUndone();
        whatIsNotUndone();
        retiredByAMonth();
        nothingIsRedone();
        changesThatCount();
        callsThatDoNotCount();
        infantLeavesNone();
        skillLeavesNone();
        refusedOnesLeaveAll();
        courtAndReadLeaveNone();
        imagesKeepTheirs();
        undoOfTheEmpty();
        check.end();
    }

    /** "UNDO: the MONTH then. NO: none may be." */
    private static void noneMayBe() {
        check.leavesAll(Courts::empty, 1, "undo() of none", x -> x.undo(), PramState.NO);
        PramState x = Check.of(0, 3, 0);
        check.no(x, "undo() with none", y -> y.undo());
        x.month(1);
        check.due("undo() of one", x.undo(), 0);
        check.no(x, "undo() of one more", y -> y.undo());
        check.no(x, "undo() once more", y -> y.undo());
        check.due("three are counted", x.status(1), 3);
    }

    /** "(8 at most ..)": 7, 8 and 9 changes, and what is left of them. */
    private static void eightAtMost() {
        for (int changes = 0; changes <= 20; changes++) {
            PramState x = Check.of(4, 0, 0);
            for (int n = 0; n < changes; n++) x.nurse(0, 1 + n % 5);
            int left = Math.min(8, changes);
            check.due(changes + " changes: count(5)", x.count(5), left);
            for (int n = 0; n < left; n++) {
                check.due(changes + " changes: undo() " + n, x.undo(), 0);
                check.due("count(5) then", x.count(5), left - n - 1);
                int behind = changes - n - 1;
                check.due("the nurse then", x.of(0, 3), behind == 0 ? 0 : 1 + (behind - 1) % 5);
            }
            check.no(x, changes + " changes: one undo() more", y -> y.undo());
            check.due("the nurse stays", x.of(0, 3), changes <= 8 ? 0 : 1 + (changes - 9) % 5);
        }
    }

    private static void theOldestMakesWay() {
        PramState x = Check.of(4, 0, 0, 0, 1, 0);
        x.retire(1);
        for (int n = 1; n <= 7; n++) x.month(n);
        check.due("eight", x.count(5), 8);
        x.nurse(0, 5);
        check.due("eight yet", x.count(5), 8);
        int[] months = {28, 21, 15, 10, 6, 3, 1, 0};
        for (int month : months) check.due("undo()", x.undo(), month);
        check.no(x, "that one is retired can not be undone", y -> y.undo());
        check.due("it is retired", x.of(1, 4), 1);
        check.due("the other one's months", x.of(0, 1), 0);
    }

    /** Each of the three kinds of change takes one of the eight places. */
    private static void eightOfEachKind() {
        PramState x = Check.ofAllKinds(0);
        List<Long> ahead = new ArrayList<>();
        for (int k = 0; k < 9; k++) {
            ahead.add(x.digest());
            if (k % 3 == 0) x.month(1);
            else if (k % 3 == 1) x.nurse(k % 6, 3);
            else x.retire(k / 3);
        }
        for (int k = 8; k >= 1; k--) {
            x.undo();
            // the first one has made way, so one fewer is left to undo than there was then
            check.due("all as ahead of change " + k, x.digest(), ahead.get(k) - fewer(x));
        }
        check.no(x, "the first one made way", y -> y.undo());
        check.due("the month that went by first", x.count(2), 1);
    }

    /** What the digest is less by, when one fewer may be undone than there was in the same court. */
    private static long fewer(PramState x) {
        long weight = 1;
        int behind = 1 + 6 + 5 * x.count(0) + 5 * x.count(3) + 2 * x.count(4) + 2;
        for (int k = 0; k < behind; k++) weight *= 31;
        return weight;
    }

    /** "n MONTHS go by (1 .. 60; together one that may be undone)". */
    private static void monthsTogetherAreOne() {
        for (int n : new int[] {1, 2, 59, 60}) {
            PramState x = Check.of(0, 0, 0, 4, 3, 0);
            x.month(2);
            x.month(n);
            check.due(n + " months are one: count(5)", x.count(5), 2);
            check.due(n + " months are one: undo()", x.undo(), 2);
            check.due("the months of all", x.of(0, 1), 2);
            check.due("the months of all", x.of(1, 1), 5);
            check.due("nobody is retired", x.count(1), 0);
            check.due("undo() of the first two", x.undo(), 0);
            check.due("the months of all", x.of(1, 1), 3);
        }
    }

    /** "MONTHS of all, RETIRED ones, NURSES, the MONTH as ahead of the last .. change". */
    private static void whatIsUndone() {
        PramState x = Check.ofAllKinds(8);
        long first = x.digest();
        x.month(3);
        long second = x.digest();
        check.due("the early one walks", x.of(3, 4), 1);
        x.nurse(5, 0);
        long third = x.digest();
        x.retire(0);
        long fourth = x.digest();
        x.month(60);
        check.due("all are retired", x.count(1), 6);
        check.due("undo() of 60 months", x.undo(), 3);
        check.due("digest() as ahead of them", x.digest(), fourth);
        check.due("undo() of retire", x.undo(), 3);
        check.due("digest() as ahead of it", x.digest(), third);
        check.due("undo() of nurse", x.undo(), 3);
        check.due("digest() as ahead of it", x.digest(), second);
        check.due("undo() of 3 months", x.undo(), 0);
        check.due("digest() as ahead of them", x.digest(), first);
        for (int i = 0; i < 6; i++) {
            check.due("months of " + i, x.of(i, 1), 8);
            check.due("nurse of " + i, x.of(i, 3), i);
            check.due("retired: " + i, x.of(i, 4), 0);
        }
    }

    /** Notes, what was heard, the text, the fraction, images and STATUS are none of what is undone. */
    private static void whatIsNotUndone() {
        PramState x = Check.of(0, 3, 0);
        x.skill(0, 4);
        x.note(0, 1, 1, 1, 0);
        x.month(1);
        x.note(0, 2, 2, 1, 0);
        x.heard(0, 1);
        x.walks(1, 5);
        x.image(1);
        Check.type(x, "court;");
        x.month(0);
        check.due("undo()", x.undo(), 0);
        check.due("notes stay", x.count(3), 2);
        check.due("heard stays", x.count(4), 1);
        check.due("the text stays", x.count(6), 6);
        check.due("the fraction stays", x.part(1), 2);
        check.due("status stays", x.status(0), 1);
        check.due("its home stays", x.of(0, 2), 0);
        check.due("the image stays", x.from(1), 1);
        check.due("it is of the month then", x.count(2), 1);
        check.due("skills stay", x.skill(0, 4), 4);
        PramState forgot = Check.of(0, 3, 0);
        forgot.month(1);
        forgot.note(0, 1, 1, 1, 0);
        forgot.heard(0, 0);
        forgot.forget(0);
        forgot.forget(1);
        forgot.undo();
        check.due("what was forgotten stays so", forgot.count(3) + forgot.count(4), 0);
    }

    private static void retiredByAMonth() {
        PramState x = Check.of(0, 13, 0, 3, 10, 0, 4, 16, 0);
        x.month(1);
        check.due("two are retired", x.count(1), 2);
        x.month(1);
        check.due("the third one, too", x.count(1), 3);
        check.due("undo()", x.undo(), 1);
        check.due("the third one reigns again", x.reign(0), 2);
        check.due("two are retired yet", x.count(1), 2);
        check.due("undo()", x.undo(), 0);
        check.due("nobody is retired", x.count(1), 0);
        check.due("the months of each", x.of(0, 1), 13);
        check.due("the months of each", x.of(1, 1), 10);
        check.due("the months of each", x.of(2, 1), 16);
        check.due("they go by again", x.month(1), 2);
    }

    /** A change behind an undo() takes the place of what was undone. */
    private static void nothingIsRedone() {
        PramState x = Check.of(4, 0, 0);
        for (int n = 0; n < 8; n++) x.month(1);
        for (int n = 0; n < 3; n++) x.undo();
        check.due("count(5)", x.count(5), 5);
        x.nurse(0, 4);
        check.due("count(5) then", x.count(5), 6);
        check.due("undo() of the newest", x.undo(), 5);
        check.due("its nurse", x.of(0, 3), 0);
        check.due("undo() of an older one", x.undo(), 4);
        for (int n = 0; n < 4; n++) x.undo();
        check.no(x, "then none may be", y -> y.undo());
        for (int n = 1; n <= 9; n++) x.month(2);
        check.due("eight at most again", x.count(5), 8);
        for (int n = 8; n >= 1; n--) check.due("undo()", x.undo(), 2 * n);
        check.no(x, "a 9th one made way", y -> y.undo());
    }

    /** "the last MONTHS gone by, NURSE changed, one RETIRED": one each; those that are refused are none. */
    private static void changesThatCount() {
        counts("month(1)", x -> x.month(1), 1);
        counts("month(60)", x -> x.month(60), 1);
        counts("nurse(1, 4)", x -> x.nurse(1, 4), 1);
        counts("nurse(1, 2), which it has", x -> x.nurse(1, 2), 1);
        counts("retire(1)", x -> x.retire(1), 1);
        counts("month(0)", x -> x.month(0), 0);
        counts("month(61)", x -> x.month(61), 0);
        counts("nurse(2, 0)", x -> x.nurse(2, 0), 0);
        counts("nurse(0, 6)", x -> x.nurse(0, 6), 0);
        counts("retire(2)", x -> x.retire(2), 0);
        PramState x = Courts.two();
        x.retire(0);
        check.no(x, "retire(0) again", y -> y.retire(0));
        check.due("once alone", x.count(5), 3);
    }

    private static void counts(String call, Check.Call made, int more) {
        PramState x = Courts.two();
        int before = x.count(5);
        made.on(x);
        check.due(call + ": what may be undone", x.count(5), before + more);
        for (int k = 0; k < more; k++) x.undo();
        check.due(call + ", undone: all as ahead", x.digest(), Courts.two().digest());
    }

    private static void callsThatDoNotCount() {
        leavesTheTwo("note", x -> x.note(0, 1, 1, 1, 0));
        leavesTheTwo("heard", x -> x.heard(0, 1));
        leavesTheTwo("forget(0)", x -> x.forget(0));
        leavesTheTwo("forget(1)", x -> x.forget(1));
        leavesTheTwo("type", x -> x.type(32));
        leavesTheTwo("clear", x -> x.clear());
        leavesTheTwo("walks", x -> x.walks(3, 3));
        leavesTheTwo("image(0)", x -> x.image(0));
        leavesTheTwo("image(1)", x -> x.image(1));
        leavesTheTwo("dynasties", x -> x.dynasties(5, 60));
        leavesTheTwo("nurses", x -> x.nurses(-1));
        leavesTheTwo("reign", x -> x.reign(60));
        leavesTheTwo("a fault", x -> x.type('x') + x.read());
        leavesTheTwo("from(1), which is none", x -> x.from(1));
    }

    private static void leavesTheTwo(String call, Check.Call made) {
        PramState x = Courts.two();
        made.on(x);
        check.due(call + ": two may be undone", x.count(5), 2);
        check.due(call + ": undo() of nurse", x.undo(), 1);
        check.due(call + ": its nurse", x.of(1, 3), 1);
        check.due(call + ": undo() of month", x.undo(), 0);
        check.due(call + ": its months", x.of(1, 1), 6);
    }

    /** "behind an INFANT that comes .. none may be". */
    private static void infantLeavesNone() {
        PramState x = Courts.two();
        check.due("an infant comes", x.infant(0, 0, 0), 2);
        check.due("count(5)", x.count(5), 0);
        check.no(x, "undo()", y -> y.undo());
        check.due("the month stays", x.count(2), 1);
        check.due("the nurse stays", x.of(1, 3), 2);
        x.month(1);
        check.due("the next change may be undone", x.undo(), 1);
        check.due("the newest one's months", x.of(2, 1), 0);
        check.no(x, "no other one", y -> y.undo());
    }

    /** "behind .. a SKILL told none may be": also one that was so already. */
    private static void skillLeavesNone() {
        for (int s : new int[] {0, 7, 9}) {
            PramState x = Courts.two();
            check.due("skill(2, " + s + ")", x.skill(2, s), 7);
            check.due("count(5)", x.count(5), 0);
            check.no(x, "undo()", y -> y.undo());
            check.due("the month stays", x.count(2), 1);
            x.nurse(0, 5);
            check.due("the next change may be undone", x.undo(), 1);
            check.due("what was told stays", x.skill(2, s), s);
        }
    }

    private static void refusedOnesLeaveAll() {
        check.leavesAll(Courts::two, 0, "infant(6, 0, 0)", x -> x.infant(6, 0, 0), PramState.BAD);
        check.leavesAll(Courts::full, 2, "a 7th infant", x -> x.infant(0, 0, 0), PramState.FULL);
        check.leavesAll(Courts::full, 0, "a 7th infant, and wrong", x -> x.infant(0, 36, 0), PramState.BAD);
        check.leavesAll(Courts::full, 0, "skill(0, 10)", x -> x.skill(0, 10), PramState.BAD);
        check.leavesAll(Courts::full, 0, "skill(6, 9)", x -> x.skill(6, 9), PramState.BAD);
        check.leavesAll(Courts::full, 1, "retire(3)", x -> x.retire(3), PramState.NO);
        check.leavesAll(Courts::full, 0, "month(61)", x -> x.month(61), PramState.BAD);
        check.leavesAll(Courts::full, 0, "nurse(5, 6)", x -> x.nurse(5, 6), PramState.BAD);
        PramState x = Courts.full();
        x.infant(0, 0, 0);
        x.skill(0, 10);
        check.due("eight may be undone yet", x.count(5), 8);
    }

    /** "All as at first"; "nothing to undo". */
    private static void courtAndReadLeaveNone() {
        PramState x = Courts.full();
        x.court();
        check.due("court(): count(5)", x.count(5), 0);
        check.no(x, "court(): undo()", y -> y.undo());
        PramState z = Courts.full();
        z.read();
        check.due("read(): count(5)", z.count(5), 0);
        check.no(z, "read(): undo()", y -> y.undo());
        check.due("read(): a nurse that was told may not be undone", z.of(5, 3), 0);
        z.nurse(5, 3);
        check.due("read(): what comes then may be", z.undo(), 0);
        check.due("its nurse as it was told", z.of(5, 3), 0);
    }

    /** "what may be undone they keep; it goes on from one". */
    private static void imagesKeepTheirs() {
        PramState x = Check.of(4, 0, 0);
        x.image(0);
        for (int n = 0; n < 8; n++) x.month(1);
        x.image(1);
        x.from(0);
        check.due("none in the first image", x.count(5), 0);
        check.no(x, "undo() of none", y -> y.undo());
        x.from(1);
        check.due("eight in the second one", x.count(5), 8);
        x.month(1);
        for (int n = 8; n >= 1; n--) check.due("undo()", x.undo(), n);
        check.no(x, "the oldest made way", y -> y.undo());
        x.from(1);
        for (int n = 7; n >= 0; n--) check.due("undo() from the image again", x.undo(), n);
        check.no(x, "none is left", y -> y.undo());
        x.from(1);
        x.skill(0, 0);
        check.due("a skill leaves none here", x.count(5), 0);
        x.from(1);
        check.due("but eight in the image", x.count(5), 8);
    }

    private static void undoOfTheEmpty() {
        PramState x = new PramState();
        check.due("month(7) of no infants", x.month(7), PramState.NONE);
        check.due("it may be undone", x.count(5), 1);
        check.due("undo()", x.undo(), 0);
        check.due("the month", x.count(2), 0);
        check.no(x, "undo() of none", y -> y.undo());
    }
}
