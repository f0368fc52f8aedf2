/** How many there may be, what stays at its most, what is as at first; empty, full and one beyond. */
public final class EdgeCountsTest {
    private static final Check check = new Check();

    public static void main(String[] args) {
        asAtFirst();
        courtIsAsAtFirst();
        courtOfTheEmpty();
        infantsAtMost();
        roomForInfantsAgain();
        notesAtMost();
        heardAtMost();
        notesAndHeardApart();
        forgetMakesRoom();
        monthStaysAtItsMost();
        monthsBeyondTheMost();
        monthsGoByBeyondTheLastMonth();
        monthsOfTheOldest();
        walkingAges();
        retiredOnesStay();
        retiredAtMost();
        imagesAreTwo();
        imagesKeep();
        imagesDoNotKeep();
        imagesAreNotImages();
        countsOfNothing();
        digestOfEach();
        check.end();
    }

    /** "As told; no INFANTS": all that the terms say of "at first". */
    private static void asAtFirst() {
        PramState x = new PramState();
        for (int what = 0; what <= 6; what++) check.due("count(" + what + ") at first", x.count(what), 0);
        for (int r = 0; r < 3; r++) check.due("status(" + r + ") at first", x.status(r), 0);
        check.due("part(0) at first", x.part(0), 0);
        check.due("part(1) at first", x.part(1), 1);
        check.no(x, "from(0) at first", y -> y.from(0));
        check.no(x, "from(1) at first", y -> y.from(1));
        check.no(x, "undo() at first", y -> y.undo());
        for (int n = 0; n < 6; n++) check.due("skill of " + n + " at first", x.skill(n, 9), 0);
        for (int i = 0; i < 6; i++) {
            x.infant(0, 0, 0);
            check.due("nurse of " + i + " at first", x.of(i, 3), i);
            check.due("retired at first: " + i, x.of(i, 4), 0);
        }
    }

    /** "All as at first (but for IMAGES, THE TEXT, THE FRACTION, STATUS): how many INFANTS there were." */
    private static void courtIsAsAtFirst() {
        PramState x = Courts.full();
        x.infant(0, 0, 0);
        x.infant(9, 0, 0);
        x.retire(3);
        long above = x.part(0);
        long below = x.part(1);
        check.answered(x, "part(0) is not as at first", y -> y.part(0), 9);
        check.due("court()", x.court(), 6);
        int[] counts = {0, 0, 0, 0, 0, 0, 150};
        for (int what = 0; what <= 6; what++) check.due("court(): count(" + what + ")", x.count(what), counts[what]);
        check.due("the fraction stays, above", x.part(0), above);
        check.due("the fraction stays, below", x.part(1), below);
        check.due("BAD stays", x.status(0), 1);
        check.due("NO stays", x.status(1), 1);
        check.due("FULL stays", x.status(2), 1);
        check.due("court() again", x.court(), 0);
        for (int n = 0; n < 6; n++) check.due("skill of " + n, x.skill(n, 0), 0);
        check.due("an infant is the first one again", x.infant(5, 35, 5), 0);
        check.due("its own nurse", x.of(0, 3), 0);
        check.due("nobody is retired", x.count(1), 0);
        check.due("from(0)", x.from(0), 1);
        check.due("from(0): infants", x.count(0), 6);
        check.due("from(1)", x.from(1), 1);
        check.due("from(1): what may be undone", x.count(5), 7);
        check.due("the text stays", x.read(), 13);
    }

    private static void courtOfTheEmpty() {
        PramState x = new PramState();
        check.answered(x, "court() of none", y -> y.court(), 0);
        for (int infants = 1; infants <= 6; infants++) {
            for (int i = 0; i < infants; i++) x.infant(0, 0, 0);
            check.due("court() of " + infants, x.court(), infants);
        }
        x.month(1);
        check.due("court() of none with a month gone by", x.court(), 0);
        check.due("the month is 0", x.count(2), 0);
        check.no(x, "nothing to undo", y -> y.undo());
    }

    /** "INFANTS 0 .. 5"; "An INFANT: its number. BAD; FULL: 6." */
    private static void infantsAtMost() {
        PramState x = new PramState();
        for (int i = 0; i < 6; i++) check.answeredAnew(x, "infant " + i, y -> y.infant(0, 35, 5), i);
        check.full(x, "a 7th one", y -> y.infant(0, 0, 0));
        check.full(x, "a 7th one again", y -> y.infant(5, 35, 5));
        check.bad(x, "a 7th one, KIND wrong", y -> y.infant(6, 0, 0));
        check.bad(x, "a 7th one, MONTHS wrong", y -> y.infant(0, 36, 0));
        check.bad(x, "a 7th one, HOME wrong", y -> y.infant(0, 0, 6));
        x.month(1);
        check.due("all are retired", x.count(1), 6);
        check.full(x, "retired ones take their places yet", y -> y.infant(0, 0, 0));
    }

    private static void roomForInfantsAgain() {
        PramState x = new PramState();
        for (int i = 0; i < 5; i++) x.infant(0, 0, 0);
        x.image(0);
        check.due("the 6th one", x.infant(0, 0, 0), 5);
        check.full(x, "the 7th one", y -> y.infant(0, 0, 0));
        x.from(0);
        check.due("the 6th one behind from(0)", x.infant(0, 0, 0), 5);
        check.full(x, "the 7th one behind from(0)", y -> y.infant(0, 0, 0));
        x.court();
        check.due("the first one behind court()", x.infant(0, 0, 0), 0);
        Check.type(x, "court;infant 0 0 0;infant 0 0 0;infant 0 0 0;infant 0 0 0;infant 0 0 0;");
        x.read();
        check.due("the 6th one behind read()", x.infant(0, 0, 0), 5);
        check.full(x, "the 7th one behind read()", y -> y.infant(0, 0, 0));
    }

    /** "NOTES 0 .. 5, as they come"; "A NOTE: how many there are. BAD; FULL: 6." */
    private static void notesAtMost() {
        PramState x = Check.of(0, 0, 0, 1, 3, 0);
        check.answered(x, "no notes", y -> y.count(3), 0);
        for (int n = 1; n <= 6; n++) {
            int i = n % 2;
            check.answeredAnew(x, "note " + n, y -> y.note(i, 35, 23, 1, 20), n);
            check.due("count(3)", x.count(3), n);
        }
        check.full(x, "a 7th note", y -> y.note(0, 0, 0, 0, 0));
        check.full(x, "a 7th note of the other one", y -> y.note(1, 35, 23, 1, 20));
        check.bad(x, "a 7th note, INFANT wrong", y -> y.note(2, 0, 0, 0, 0));
        check.bad(x, "a 7th note, MONTHS wrong", y -> y.note(0, 36, 0, 0, 0));
        check.bad(x, "a 7th note, HOUR wrong", y -> y.note(0, 0, 24, 0, 0));
        check.bad(x, "a 7th note, SLEPT wrong", y -> y.note(0, 0, 0, 2, 0));
        check.bad(x, "a 7th note, CRIED wrong", y -> y.note(0, 0, 0, 0, 21));
        check.due("six stay", x.count(3), 6);
    }

    /** "HEARD 0 .. 5, as they come"; "HEARD: how many there are. BAD; FULL: 6." */
    private static void heardAtMost() {
        PramState x = Check.of(0, 0, 0, 1, 3, 0);
        for (int n = 1; n <= 6; n++) {
            int i = n % 2;
            check.answeredAnew(x, "heard " + n, y -> y.heard(i, 1), n);
            check.due("count(4)", x.count(4), n);
        }
        check.full(x, "a 7th heard", y -> y.heard(0, 0));
        check.full(x, "a 7th heard of the other one", y -> y.heard(1, 1));
        check.bad(x, "a 7th heard, INFANT wrong", y -> y.heard(2, 0));
        check.bad(x, "a 7th heard, awake wrong", y -> y.heard(0, 2));
        check.due("six stay", x.count(4), 6);
        check.due("a 7th one does not narrow the hours", x.which(), 0b1111100111110000000);
    }

    private static void notesAndHeardApart() {
        PramState x = Check.of(0, 0, 0);
        for (int n = 0; n < 6; n++) x.note(0, 0, 9, 0, 3);
        check.due("heard when notes are full", x.heard(0, 1), 1);
        for (int n = 1; n < 6; n++) x.heard(0, 1);
        x.forget(0);
        check.due("a note when heard is full", x.note(0, 0, 9, 0, 3), 1);
        check.full(x, "heard is full yet", y -> y.heard(0, 1));
    }

    /** "No NOTES (0), HEARD (1): how many there were." */
    private static void forgetMakesRoom() {
        for (int had = 0; had <= 6; had++) {
            PramState x = Check.of(0, 0, 0);
            for (int n = 0; n < had; n++) x.note(0, 0, 9, 0, 4);
            for (int n = 0; n < had; n++) x.heard(0, 1);
            x.month(1);
            check.due("forget(0) of " + had, x.forget(0), had);
            check.due("heard stays", x.count(4), had);
            check.due("no notes", x.count(3), 0);
            check.due("forget(0) of none", x.forget(0), 0);
            check.due("all kinds fit", x.is(0), 63);
            check.due("a first note again", x.note(0, 0, 9, 0, 3), 1);
            check.due("forget(1) of " + had, x.forget(1), had);
            check.due("the note stays", x.count(3), 1);
            check.due("none heard", x.count(4), 0);
            check.due("forget(1) of none", x.forget(1), 0);
            check.due("all hours", x.which(), (1 << 24) - 1);
            check.due("a first one heard again", x.heard(0, 0), 1);
            check.due("that can be undone yet", x.count(5), 1);
        }
        check.leavesAll(Courts::full, 0, "forget(2)", x -> x.forget(2), PramState.BAD);
        check.leavesAll(Courts::full, 0, "forget(-1)", x -> x.forget(-1), PramState.BAD);
    }

    private static PramState atMonth(int month) {
        PramState x = new PramState();
        for (int left = month; left > 0; left -= 60) x.month(Math.min(60, left));
        return x;
    }

    /** "MONTHS have numbers, 0 at first (999 at most)"; "The MONTH is one more (999 stays)." */
    private static void monthStaysAtItsMost() {
        int[] from = {0, 938, 939, 940, 997, 998, 998, 999, 999};
        int[] months = {60, 60, 60, 60, 1, 1, 2, 1, 60};
        int[] then = {60, 998, 999, 999, 998, 999, 999, 999, 999};
        for (int k = 0; k < from.length; k++) {
            PramState x = atMonth(from[k]);
            check.due("the month", x.count(2), from[k]);
            x.month(months[k]);
            check.due(from[k] + " and " + months[k], x.count(2), then[k]);
            check.due(from[k] + " and " + months[k] + ": it may be undone", x.undo(), from[k]);
            check.due("the month again", x.count(2), from[k]);
        }
    }

    private static void monthsBeyondTheMost() {
        PramState x = atMonth(999);
        x.image(0);
        check.due("undo() at the last month", x.undo(), 960);
        x.from(0);
        check.due("from(0) at the last month", x.count(2), 999);
        x.month(1);
        x.month(1);
        check.due("undo() of one that changed no number", x.undo(), 999);
        check.due("undo() of another one", x.undo(), 999);
        check.due("undo() of the one that came to it", x.undo(), 960);
        x.from(0);
        check.due("court() begins at 0", x.court(), 0);
        check.due("the month", x.count(2), 0);
        x.from(0);
        Check.type(x, "court;");
        x.read();
        check.due("a court that is read begins at 0", x.count(2), 0);
    }

    /** "999 stays", yet infants grow and walk; "MONTHS go beyond 999 in them" that only ask. */
    private static void monthsGoByBeyondTheLastMonth() {
        PramState x = atMonth(998);
        x.infant(4, 0, 0);
        x.infant(0, 0, 0);
        check.due("reign(17) beyond 999", x.reign(17), 0);
        check.due("reign(18) beyond 999", x.reign(18), PramState.NONE);
        check.due("reign(60) beyond 999", x.reign(60), PramState.NONE);
        check.due("falls() beyond 999", x.falls(), 18);
        check.due("line(0, 1) beyond 999", x.line(0, 1), 18);
        check.due("walks(9, 1) beyond 999", x.walks(9, 1), 1);
        check.due("its chance", x.part(0), 387420489);
        check.due("asking changes no month", x.count(2), 998);
        check.due("month(13)", x.month(13), 0);
        check.due("the plain one's months", x.of(1, 1), 13);
        check.due("month(1)", x.month(1), 0);
        check.due("the plain one walks", x.of(1, 4), 1);
        check.due("month(4)", x.month(4), PramState.NONE);
        check.due("the late one's months", x.of(0, 1), 18);
        check.due("the month", x.count(2), 999);
        check.due("falls() then", x.falls(), PramState.NONE);
    }

    /** "MONTHS (0 .. 35)" as one comes; a month makes 36 of 35, and then it is retired. */
    private static void monthsOfTheOldest() {
        for (int kind = 0; kind < 6; kind++) {
            PramState x = Check.of(kind, 35, 0);
            check.due("35 months: not retired yet", x.of(0, 4), 0);
            check.due("35 months: reigns", x.reign(0), 0);
            check.due("35 months: behind a month", x.reign(1), PramState.NONE);
            check.due("35 months: falls()", x.falls(), 1);
            check.due("35 months: line(0, 1)", x.line(0, 1), 1);
            check.due("35 months: month(60)", x.month(60), PramState.NONE);
            check.due("36 months, no more", x.of(0, 1), 36);
            check.due("the hour to listen with 36 months", x.listen(0), 14);
            check.due("undo()", x.undo(), 0);
            check.due("35 months again", x.of(0, 1), 35);
        }
    }

    /** "those with as many as those with which they WALK, or more, are RETIRED": as a MONTH goes by, not ahead of it. */
    private static void walkingAges() {
        int[] ages = {14, 14, 14, 11, 18, 14};
        for (int kind = 0; kind < 6; kind++) {
            for (int less = -1; less <= 2; less++) {
                PramState x = Check.of(kind, ages[kind] - less, 0);
                String one = "kind " + kind + " with " + (ages[kind] - less) + " months";
                check.due(one + ": as it comes", x.of(0, 4), 0);
                check.due(one + ": reign(0)", x.reign(0), 0);
                check.due(one + ": reign(1)", x.reign(1), less == 2 ? 0 : PramState.NONE);
                check.due(one + ": falls()", x.falls(), Math.max(1, less));
                check.due(one + ": month(1)", x.month(1), less == 2 ? 0 : PramState.NONE);
                check.due(one + ": of(0, 4)", x.of(0, 4), less == 2 ? 0 : 1);
                check.due(one + ": of(0, 1)", x.of(0, 1), ages[kind] - less + 1);
                check.due(one + ": month(1) again", x.month(1), PramState.NONE);
                check.due(one + ": of(0, 1) at last", x.of(0, 1), Math.max(ages[kind], ages[kind] - less + 1));
            }
        }
    }

    /** "MONTHS of each that is not RETIRED are 1 more": those of the others stay. */
    private static void retiredOnesStay() {
        PramState x = Check.of(0, 3, 0, 0, 3, 0);
        x.retire(0);
        x.month(4);
        check.due("a retired one's months", x.of(0, 1), 3);
        check.due("the other one's", x.of(1, 1), 7);
        x.month(60);
        check.due("a retired one's months behind 60 more", x.of(0, 1), 3);
        check.due("the other one's as it walks", x.of(1, 1), 14);
        check.due("both are retired", x.count(1), 2);
    }

    /** "An INFANT is RETIRED now: how many are. BAD; NO: it is." */
    private static void retiredAtMost() {
        PramState x = Check.ofAllKinds(9);
        for (int i = 5; i >= 0; i--) {
            int own = i;
            check.answeredAnew(x, "retire(" + i + ")", y -> y.retire(own), 6 - i);
            check.due("count(1)", x.count(1), 6 - i);
            check.no(x, "retire(" + i + ") again", y -> y.retire(own));
        }
        check.due("nobody reigns", x.reign(0), PramState.NONE);
        check.due("six may be undone", x.count(5), 6);
        PramState walked = Check.of(0, 13, 0, 4, 0, 0);
        walked.month(1);
        check.no(walked, "retire of one who walks", y -> y.retire(0));
        check.due("the other one", walked.retire(1), 2);
        walked.undo();
        walked.undo();
        check.due("undone, it may be retired", walked.retire(0), 1);
    }

    /** "IMAGES 0, 1"; "NO: none was kept": each of the two for itself. */
    private static void imagesAreTwo() {
        for (int image = 0; image <= 1; image++) {
            int own = image;
            PramState x = Check.of(0, 3, 1);
            check.leavesAll(Courts::empty, 1, "from(" + own + ") of none", y -> y.from(own), PramState.NO);
            check.answered(x, "image(" + own + ")", y -> y.image(own), 1);
            check.no(x, "from the other one", y -> y.from(1 - own));
            check.answered(x, "from(" + own + ")", y -> y.from(own), 1);
            check.bad(x, "image(2)", y -> y.image(2));
            check.bad(x, "image(-1)", y -> y.image(-1));
            check.bad(x, "from(2)", y -> y.from(2));
            check.bad(x, "from(-1)", y -> y.from(-1));
            check.no(x, "from the other one yet", y -> y.from(1 - own));
        }
        PramState x = new PramState();
        x.image(0);
        x.infant(0, 3, 1);
        check.due("an image of nothing is one", x.from(0), 1);
        check.due("it has no infants", x.count(0), 0);
    }

    /** "IMAGES 0, 1 keep all but them, THE TEXT, THE FRACTION and STATUS; what may be undone they keep". */
    private static void imagesKeep() {
        PramState x = Courts.full();
        x.image(0);
        long kept = x.digest();
        x.month(60);
        x.forget(0);
        x.forget(1);
        x.from(0);
        check.due("from(0)", x.digest(), kept);
        check.due("what may be undone", x.count(5), 8);
        x.court();
        for (int i = 0; i < 6; i++) x.infant(0, 35, 0);
        for (int n = 0; n < 6; n++) x.note(5 - n, 35, 23, 1, 20);
        for (int n = 0; n < 6; n++) x.heard(5 - n, n % 2);
        for (int k = 0; k < 8; k++) x.month(60);
        x.from(0);
        check.due("from(0) behind another court", x.digest(), kept);
        check.due("undo() goes on from it", x.undo(), 1);
        check.due("nobody is retired then", x.count(1), 0);
        for (int k = 5; k >= 0; k--) {
            x.undo();
            check.due("the nurse of " + k, x.of(k, 3), k);
        }
        check.due("the first of eight", x.undo(), 0);
        check.no(x, "a 9th one", y -> y.undo());
        x.from(0);
        check.due("the image stays as it is", x.digest(), kept);
        x.image(1);
        x.court();
        x.from(1);
        check.due("an image from an image", x.digest(), kept);
        x.infant(0, 0, 0);
        x.court();
        x.image(0);
        x.from(1);
        check.due("the other one stays as a newer one is kept", x.digest(), kept);
        x.from(0);
        check.due("the newer one", x.count(0), 0);
    }

    private static void imagesDoNotKeep() {
        PramState x = Courts.two();
        x.image(1);
        x.infant(6, 0, 0);
        x.walks(1, 5);
        Check.type(x, "court;");
        x.retire(0);
        x.retire(0);
        int[] status = {x.status(0), x.status(1), x.status(2)};
        check.due("from(1)", x.from(1), 1);
        check.due("the text stays", x.count(6), 6);
        check.due("the fraction stays, above", x.part(0), 1);
        check.due("the fraction stays, below", x.part(1), 2);
        for (int r = 0; r < 3; r++) check.due("status(" + r + ") stays", x.status(r), status[r]);
        check.due("the text that stays is read", x.read(), 1);
    }

    /** "keep all but them": what an image is kept of does not bring older images back. */
    private static void imagesAreNotImages() {
        PramState x = new PramState();
        x.infant(0, 1, 0);
        x.image(1);
        x.infant(0, 2, 0);
        x.image(0);
        x.infant(0, 3, 0);
        x.image(1);
        x.from(0);
        check.due("from(0)", x.count(0), 2);
        x.from(1);
        check.due("from(1) is the newer one", x.count(0), 3);
    }

    /** "How many" of what is empty, and of what is full. */
    private static void countsOfNothing() {
        int[] full = {6, 1, 1, 6, 6, 8, 150};
        PramState x = Courts.full();
        PramState y = Courts.empty();
        for (int what = 0; what <= 6; what++) {
            int asked = what;
            check.answered(x, "count(" + what + ") of the full", z -> z.count(asked), full[what]);
            check.answered(y, "count(" + what + ") of the empty", z -> z.count(asked), 0);
        }
    }

    /** "h = 1423; then h = 31 h + v for each v": each of them, the last of each row too, makes another digest. */
    private static void digestOfEach() {
        long h = 1423;
        int[] values = {6, 1, 1, 6, 6, 8, 150, 1, 2, 3, 4, 5, 6,
            0, 1, 5, 2, 0, 1, 3, 4, 3, 0, 2, 5, 3, 4, 0, 3, 7, 2, 5, 1, 4, 9, 1, 0, 0, 5, 11, 0, 1, 0,
            0, 1, 2, 0, 3, 1, 2, 3, 1, 4, 2, 3, 4, 0, 5, 3, 4, 5, 1, 6, 4, 5, 6, 0, 7, 5, 6, 7, 1, 8,
            0, 1, 1, 0, 2, 1, 3, 0, 4, 1, 5, 0, 9, 100};
        for (int v : values) h = 31 * h + v;
        check.due("digest() of the full", Courts.full().digest(), h);
        long first = 1423;
        for (int k = 0; k < 14; k++) first *= 31;
        check.due("digest() of the empty", new PramState().digest(), 31 * first + 1);
    }
}
