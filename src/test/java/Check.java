import java.util.ArrayList;
import java.util.List;

/** Gathers the answers that are not the ones that are due. */
final class Check {
    private final List<String> wrong = new ArrayList<>();
    private int seen = 0;

    void due(String call, long got, long want) {
        seen++;
        if (got != want) wrong.add(call + " answered " + got + ", due is " + want);
    }

    /** A refused call: its answer, one more in STATUS under this reason alone, and nothing else changed. */
    void refused(PramState x, int reason, String call, Call refusedCall, long want) {
        int[] before = reasons(x);
        long digest = x.digest();
        due(call, refusedCall.on(x), want);
        int[] after = reasons(x);
        for (int r = 0; r < 3; r++) {
            due(call + ": status(" + r + ")", after[r], before[r] + (r == reason ? 1 : 0));
        }
        due(call + ": digest()", x.digest(), digest);
    }

    void bad(PramState x, String call, Call refusedCall) {
        refused(x, 0, call, refusedCall, PramState.BAD);
    }

    void no(PramState x, String call, Call refusedCall) {
        refused(x, 1, call, refusedCall, PramState.NO);
    }

    void full(PramState x, String call, Call refusedCall) {
        refused(x, 2, call, refusedCall, PramState.FULL);
    }

    /** An answered call that adds nothing to STATUS. */
    void answered(PramState x, String call, Call answeredCall, long want) {
        refused(x, -1, call, answeredCall, want);
    }

    private static int[] reasons(PramState x) {
        return new int[] {x.status(0), x.status(1), x.status(2)};
    }

    void end() {
        for (String line : wrong) System.out.println(line);
        System.out.println(seen + " answers, " + wrong.size() + " not as due");
        if (!wrong.isEmpty()) System.exit(1);
    }

    interface Call {
        long on(PramState x);
    }

    static void type(PramState x, String text) {
        x.clear();
        for (int k = 0; k < text.length(); k++) x.type(text.charAt(k));
    }

    /** One infant of each kind in the order of kinds, of the same months, at home where its number is. */
    static PramState ofAllKinds(int months) {
        PramState x = new PramState();
        for (int kind = 0; kind < 6; kind++) x.infant(kind, months, kind);
        return x;
    }

    static PramState of(int... kindMonthsHome) {
        PramState x = new PramState();
        for (int k = 0; k + 2 < kindMonthsHome.length; k += 3) {
            x.infant(kindMonthsHome[k], kindMonthsHome[k + 1], kindMonthsHome[k + 2]);
        }
        return x;
    }
}
