import java.util.ArrayList;
import java.util.List;
import java.util.function.Supplier;

/** Gathers the answers that are not the ones that are due. */
final class Check {
    private final List<String> wrong = new ArrayList<>();
    private int seen = 0;

    void due(String call, long got, long want) {
        seen++;
        if (got != want) wrong.add(call + " answered " + got + ", due is " + want);
    }

    /** A refused call: its answer, one more in STATUS under this reason alone, and nothing else changed. */
    void refused(PramState x, int reason, String call, Call refusedCall, long want) {
        int[] before = reasons(x);
        long digest = x.digest();
        due(call, refusedCall.on(x), want);
        int[] after = reasons(x);
        for (int r = 0; r < 3; r++) {
            due(call + ": status(" + r + ")", after[r], before[r] + (r == reason ? 1 : 0));
        }
        due(call + ": digest()", x.digest(), digest);
    }

    void bad(PramState x, String call, Call refusedCall) {
        refused(x, 0, call, refusedCall, PramState.BAD);
    }

    void no(PramState x, String call, Call refusedCall) {
        refused(x, 1, call, refusedCall, PramState.NO);
    }

    void full(PramState x, String call, Call refusedCall) {
        refused(x, 2, call, refusedCall, PramState.FULL);
    }

    /** An answered call that adds nothing to STATUS. */
    void answered(PramState x, String call, Call answeredCall, long want) {
        refused(x, -1, call, answeredCall, want);
    }

    /** A call that is carried out: its answer, and nothing more in STATUS. */
    void answeredAnew(PramState x, String call, Call carriedOut, long want) {
        int[] before = reasons(x);
        due(call, carriedOut.on(x), want);
        int[] after = reasons(x);
        for (int r = 0; r < 3; r++) due(call + ": status(" + r + ")", after[r], before[r]);
    }

    /**
     * A call on one of two objects that were made alike: its answer, one more in STATUS under this reason alone (-1:
     * none), and then the two are the same in all that can be seen, what may be undone, the images and the text too.
     */
    void leavesAll(Supplier<PramState> made, int reason, String call, Call asked, long want) {
        PramState x = made.get();
        PramState y = made.get();
        due(call, asked.on(x), want);
        for (int r = 0; r < 3; r++) {
            due(call + ": status(" + r + ")", x.status(r), y.status(r) + (r == reason ? 1 : 0));
        }
        due(call + ": all else stays", depths(x).equals(depths(y)) ? 1 : 0, 1);
    }

    /** All that an object holds but STATUS, as far as calls show it; the object is used up by this. */
    static List<Long> depths(PramState x) {
        List<Long> seen = new ArrayList<>();
        seen.add(x.part(0));
        seen.add(x.part(1));
        undoAll(x, seen);
        for (int image = 0; image < 2; image++) {
            seen.add((long) x.from(image));
            undoAll(x, seen);
        }
        seen.add((long) x.read());
        undoAll(x, seen);
        return seen;
    }

    private static void undoAll(PramState x, List<Long> seen) {
        seen.add(x.digest());
        for (int k = 0; k < 9; k++) {
            seen.add((long) x.undo());
            seen.add(x.digest());
        }
    }

    private static int[] reasons(PramState x) {
        return new int[] {x.status(0), x.status(1), x.status(2)};
    }

    void end() {
        for (String line : wrong) System.out.println(line);
        System.out.println(seen + " answers, " + wrong.size() + " not as due");
        if (!wrong.isEmpty()) System.exit(1);
    }

    interface Call {
        long on(PramState x);
    }

    static void type(PramState x, String text) {
        x.clear();
        for (int k = 0; k < text.length(); k++) x.type(text.charAt(k));
    }

    /** One infant of each kind in the order of kinds, of the same months, at home where its number is. */
    static PramState ofAllKinds(int months) {
        PramState x = new PramState();
        for (int kind = 0; kind < 6; kind++) x.infant(kind, months, kind);
        return x;
    }

    static PramState of(int... kindMonthsHome) {
        PramState x = new PramState();
        for (int k = 0; k + 2 < kindMonthsHome.length; k += 3) {
            x.infant(kindMonthsHome[k], kindMonthsHome[k + 1], kindMonthsHome[k + 2]);
        }
        return x;
    }
}
