import java.util.function.IntFunction;
import java.util.function.Supplier;

/**
 * "BAD -2 a number is not as told", of every number of every call: the least and the greatest that are told are taken,
 * those next to them are refused, changing nothing but STATUS, which counts one BAD.
 */
public final class EdgeNumbersTest {
    private static final Check check = new Check();
    private static final int FREE = Integer.MAX_VALUE;

    public static void main(String[] args) {
        aCourt();
        months();
        whoReigns();
        whatTheyAre();
        whatThereIs();
        infantsOf(Courts::two, 1, "of two");
        infantsOf(Courts::full, 5, "of six");
        infantsOf(Courts::empty, -1, "of none");
        severalWrongCountOnce();
        check.end();
    }

    /** A number of a call in a court: from least to most it is as told, and no other is. */
    private static void told(Supplier<PramState> court, String call, int least, int most, IntFunction<Check.Call> asked) {
        told(court, call, least, most, PramState.BAD, asked);
    }

    private static void told(Supplier<PramState> court, String call, int least, int most, int answer,
            IntFunction<Check.Call> asked) {
        for (int inside : new int[] {least, least + 1, most - 1, most}) {
            if (inside < least || inside > most) continue;
            PramState x = court.get();
            long got = asked.apply(inside).on(x);
            check.due(call + " with " + inside + ": not BAD (" + got + ")", x.status(0), court.get().status(0));
        }
        int[] outside = most == FREE ? new int[] {least - 1, Integer.MIN_VALUE}
            : new int[] {least - 1, most + 1, Integer.MIN_VALUE, Integer.MAX_VALUE};
        for (int number : outside) {
            check.leavesAll(court, 0, call + " with " + number, asked.apply(number), answer);
        }
    }

    private static void aCourt() {
        told(Courts::two, "infant: KIND", 0, 5, v -> x -> x.infant(v, 0, 0));
        told(Courts::two, "infant: MONTHS", 0, 35, v -> x -> x.infant(0, v, 0));
        told(Courts::two, "infant: HOME", 0, 5, v -> x -> x.infant(0, 0, v));
        told(Courts::two, "skill: NURSE", 0, 5, v -> x -> x.skill(v, 1));
        told(Courts::two, "skill: SKILL", 0, 9, v -> x -> x.skill(1, v));
        told(Courts::two, "type", 0, 127, v -> x -> x.type(v));
    }

    private static void months() {
        told(Courts::two, "month", 1, 60, v -> x -> x.month(v));
        told(Courts::empty, "month of none", 1, 60, v -> x -> x.month(v));
        told(Courts::full, "month of six", 1, 60, v -> x -> x.month(v));
        told(Courts::two, "nurse: NURSE", 0, 5, v -> x -> x.nurse(1, v));
        told(Courts::two, "of: what", 0, 5, v -> x -> x.of(1, v));
    }

    private static void whoReigns() {
        told(Courts::two, "hour: HOUR, SLEEPS", 0, 23, v -> x -> x.hour(1, v, 0));
        told(Courts::two, "hour: HOUR, CRIES", 0, 23, v -> x -> x.hour(1, v, 1));
        told(Courts::two, "hour: what", 0, 1, v -> x -> x.hour(1, 9, v));
        told(Courts::two, "reign", 0, 60, v -> x -> x.reign(v));
        told(Courts::empty, "reign of none", 0, 60, v -> x -> x.reign(v));
        told(Courts::two, "line: i", -1, FREE, -10, v -> x -> x.line(v, 0));
        told(Courts::empty, "line of none: i", -1, FREE, -10, v -> x -> x.line(v, 1));
        told(Courts::two, "line: what", 0, 1, -10, v -> x -> x.line(0, v));
        told(Courts::two, "line: what of one that is not there", 0, 1, -10, v -> x -> x.line(5, v));
        told(Courts::two, "line: what of how many", 0, 1, -10, v -> x -> x.line(-1, v));
        told(Courts::two, "congress", 0, 1, v -> x -> x.congress(v));
        told(Courts::empty, "congress of none", 0, 1, v -> x -> x.congress(v));
    }

    private static void whatTheyAre() {
        told(Courts::two, "note: MONTHS", 0, 35, v -> x -> x.note(1, v, 9, 0, 2));
        told(Courts::two, "note: HOUR", 0, 23, v -> x -> x.note(1, 9, v, 0, 2));
        told(Courts::two, "note: SLEPT", 0, 1, v -> x -> x.note(1, 9, 9, v, 2));
        told(Courts::two, "note: CRIED", 0, 20, v -> x -> x.note(1, 9, 9, 0, v));
        told(Courts::two, "heard: awake", 0, 1, v -> x -> x.heard(1, v));
        told(Courts::two, "forget", 0, 1, v -> x -> x.forget(v));
        told(Courts::two, "powers", 0, 23, v -> x -> x.powers(v));
        told(Courts::empty, "powers of none", 0, 23, v -> x -> x.powers(v));
        told(Courts::two, "walks: MONTHS", 0, 9, v -> x -> x.walks(v, 5));
        told(Courts::two, "walks: c", 0, 10, v -> x -> x.walks(3, v));
        told(Courts::two, "dynasties: SEED", 0, 999999, v -> x -> x.dynasties(v, 3));
        told(Courts::two, "dynasties: n", 0, 60, v -> x -> x.dynasties(3, v));
        told(Courts::empty, "dynasties of none: SEED", 0, 999999, v -> x -> x.dynasties(v, 0));
        told(Courts::empty, "dynasties of none: n", 0, 60, v -> x -> x.dynasties(3, v));
    }

    private static void whatThereIs() {
        told(Courts::two, "part", 0, 1, v -> x -> x.part(v));
        told(Courts::two, "image", 0, 1, v -> x -> x.image(v));
        told(Courts::two, "from", 0, 1, v -> x -> x.from(v));
        told(Courts::full, "from of both", 0, 1, v -> x -> x.from(v));
        told(Courts::two, "status", 0, 2, -1, v -> x -> x.status(v));
        told(Courts::two, "count", 0, 6, v -> x -> x.count(v));
    }

    /** "INFANTS 0 .. 5, as they come": those that have come are as told, the next one is not yet. */
    private static void infantsOf(Supplier<PramState> court, int last, String name) {
        told(court, "nurse " + name, 0, last, v -> x -> x.nurse(v, 4));
        told(court, "retire " + name, 0, last, v -> x -> x.retire(v));
        for (int what = 0; what <= 5; what++) {
            int asked = what;
            told(court, "of " + name + ", " + what, 0, last, v -> x -> x.of(v, asked));
        }
        told(court, "hour " + name, 0, last, v -> x -> x.hour(v, 9, 1));
        told(court, "day " + name, 0, last, v -> x -> x.day(v));
        told(court, "nurses " + name, -1, last, -10, v -> x -> x.nurses(v));
        told(court, "is " + name, 0, last, v -> x -> x.is(v));
        told(court, "listen " + name, 0, last, v -> x -> x.listen(v));
        // what is full says FULL to infants that are there, BAD to those that are not
        told(court, "note " + name, 0, last, v -> x -> x.note(v, 9, 9, 0, 2));
        told(court, "heard " + name, 0, last, v -> x -> x.heard(v, 1));
        for (int like = 0; like <= last; like++) {
            int own = like;
            for (int v = -1; v <= last + 1; v++) {
                int other = v;
                if (v >= 0 && v <= last && v != like) continue;
                check.leavesAll(court, 0, "meet(" + v + ", " + like + ") " + name, x -> x.meet(other, own), PramState.BAD);
                check.leavesAll(court, 0, "meet(" + like + ", " + v + ") " + name, x -> x.meet(own, other), PramState.BAD);
            }
        }
        check.leavesAll(court, 0, "meet of two that are not there " + name, x -> x.meet(last + 1, last + 2), PramState.BAD);
    }

    private static void severalWrongCountOnce() {
        check.leavesAll(Courts::two, 0, "infant(6, 36, 6)", x -> x.infant(6, 36, 6), PramState.BAD);
        check.leavesAll(Courts::two, 0, "skill(-1, 10)", x -> x.skill(-1, 10), PramState.BAD);
        check.leavesAll(Courts::two, 0, "nurse(2, 6)", x -> x.nurse(2, 6), PramState.BAD);
        check.leavesAll(Courts::two, 0, "of(2, 6)", x -> x.of(2, 6), PramState.BAD);
        check.leavesAll(Courts::two, 0, "hour(2, 24, 2)", x -> x.hour(2, 24, 2), PramState.BAD);
        check.leavesAll(Courts::two, 0, "line(-2, 2)", x -> x.line(-2, 2), -10);
        check.leavesAll(Courts::two, 0, "meet(2, 2)", x -> x.meet(2, 2), PramState.BAD);
        check.leavesAll(Courts::two, 0, "note(2, 36, 24, 2, 21)", x -> x.note(2, 36, 24, 2, 21), PramState.BAD);
        check.leavesAll(Courts::two, 0, "heard(2, 2)", x -> x.heard(2, 2), PramState.BAD);
        check.leavesAll(Courts::two, 0, "walks(10, 11)", x -> x.walks(10, 11), PramState.BAD);
        check.leavesAll(Courts::two, 0, "dynasties(-1, -1)", x -> x.dynasties(-1, -1), PramState.BAD);
    }
}
