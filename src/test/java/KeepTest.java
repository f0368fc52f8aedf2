/** Promises 31 to 36: part, image, from, status, count, digest. */
public final class KeepTest {
    private static final Check check = new Check();

    public static void main(String[] args) {
        part();
        images();
        imagesKeepWhatMayBeUndone();
        imagesKeepWholeRows();
        imagesStandApart();
        status();
        count();
        digest();
        check.end();
    }

    private static void part() {
        PramState x = Check.of(0, 0, 0);
        check.answered(x, "part(0)", y -> y.part(0), 0);
        check.answered(x, "part(1)", y -> y.part(1), 1);
        x.walks(2, 1);
        check.answered(x, "part(0)", y -> y.part(0), 81);
        check.answered(x, "part(1)", y -> y.part(1), 100);
        check.bad(x, "part(-1)", y -> y.part(-1));
        check.bad(x, "part(2)", y -> y.part(2));
    }

    private static void images() {
        PramState x = Check.of(0, 3, 1, 5, 4, 2);
        x.skill(3, 6);
        x.note(0, 1, 2, 1, 0);
        x.heard(1, 1);
        x.month(2);
        x.nurse(0, 3);
        x.retire(1);
        check.bad(x, "image(-1)", y -> y.image(-1));
        check.bad(x, "image(2)", y -> y.image(2));
        check.bad(x, "from(-1)", y -> y.from(-1));
        check.bad(x, "from(2)", y -> y.from(2));
        check.no(x, "from(1) ahead of image(1)", y -> y.from(1));
        long kept = x.digest();
        check.answered(x, "image(1)", y -> y.image(1), 1);
        check.no(x, "from(0)", y -> y.from(0));
        x.infant(1, 1, 1);
        x.skill(3, 2);
        x.forget(0);
        x.forget(1);
        x.note(1, 30, 20, 0, 9);
        x.heard(0, 0);
        x.month(20);
        check.due("from(1)", x.from(1), 1);
        check.due("from(1): digest()", x.digest(), kept);
        Check.type(x, "court;");
        x.walks(1, 5);
        x.read();
        check.due("from(1) again", x.from(1), 1);
        check.due("from(1): the text stays", x.count(6), 6);
        check.due("from(1): the fraction stays", x.part(1), 2);
        check.due("from(1): status stays", x.status(0), 4);
        check.due("from(1): the skill", x.skill(3, 0), 6);
    }

    private static void imagesKeepWhatMayBeUndone() {
        PramState x = Check.of(0, 3, 1);
        x.month(1);
        x.month(2);
        x.image(0);
        x.undo();
        x.undo();
        x.nurse(0, 5);
        x.from(0);
        check.due("count(5)", x.count(5), 2);
        check.due("undo()", x.undo(), 1);
        check.due("its months", x.of(0, 1), 4);
        check.due("undo() again", x.undo(), 0);
        check.due("its nurse", x.of(0, 3), 0);
        check.no(x, "a third undo()", y -> y.undo());
        x.month(5);
        x.from(0);
        check.due("the image is as it was", x.undo(), 1);
    }

    /** What has come since lies over every row that the image was made of. */
    private static void imagesKeepWholeRows() {
        PramState x = new PramState();
        for (int i = 0; i < 6; i++) x.infant(i, i, 5 - i);
        for (int n = 0; n < 6; n++) x.skill(n, n + 1);
        for (int n = 0; n < 6; n++) x.note(n, n + 1, n + 2, 0, n + 3);
        for (int n = 0; n < 6; n++) x.heard(n, n % 2);
        for (int k = 0; k < 8; k++) x.nurse(k % 6, (k + 3) % 6);
        long kept = x.digest();
        x.image(0);
        x.court();
        for (int i = 0; i < 6; i++) x.infant(5 - i, 20 + i, i);
        for (int n = 0; n < 6; n++) x.note(5 - n, 30, 20, 1, 20);
        for (int n = 0; n < 6; n++) x.heard(5 - n, 1);
        for (int k = 0; k < 8; k++) x.month(1);
        x.from(0);
        check.due("from(0): digest()", x.digest(), kept);
        for (int k = 7; k >= 0; k--) {
            check.due("from(0): undo() " + k, x.undo(), 0);
            check.due("from(0): nurse then", x.of(k % 6, 3), k < 6 ? k : k - 3);
            check.due("from(0): months then", x.of(k % 6, 1), k % 6);
        }
        check.no(x, "from(0): a 9th undo()", y -> y.undo());
    }

    private static void imagesStandApart() {
        PramState x = Check.of(0, 3, 1);
        x.image(0);
        x.infant(4, 9, 2);
        x.image(1);
        x.from(0);
        check.due("from(0): count(0)", x.count(0), 1);
        x.from(1);
        check.due("from(1): count(0)", x.count(0), 2);
        x.image(0);
        x.court();
        x.from(0);
        check.due("the newer image(0)", x.of(1, 1), 9);
        PramState other = new PramState();
        check.no(other, "another object's from(0)", y -> y.from(0));
    }

    private static void status() {
        PramState x = new PramState();
        x.infant(9, 9, 9);
        x.line(-2, 0);
        x.nurses(-2);
        x.part(7);
        x.undo();
        x.from(0);
        for (int k = 0; k < 151; k++) x.type(32);
        check.due("status(0)", x.status(0), 4);
        check.due("status(1)", x.status(1), 2);
        check.due("status(2)", x.status(2), 1);
        check.refused(x, 0, "status(3)", y -> y.status(3), -1);
        check.refused(x, 0, "status(-1)", y -> y.status(-1), -1);
        check.due("status(0) then", x.status(0), 6);
        x.line(0, 0);
        x.read();
        x.visit();
        x.falls();
        x.congress(0);
        check.due("answers of none, -5 and faults are not refused", x.status(0), 6);
        check.due("nor as NO", x.status(1), 2);
        check.due("nor as FULL", x.status(2), 1);
    }

    private static void count() {
        PramState x = Check.of(0, 3, 1, 5, 4, 2, 2, 2, 2);
        x.month(1);
        x.retire(1);
        x.retire(0);
        x.note(0, 1, 2, 1, 0);
        x.heard(1, 1);
        x.heard(1, 1);
        Check.type(x, "court");
        int[] want = {3, 2, 1, 1, 2, 3, 5};
        for (int what = 0; what < 7; what++) {
            int asked = what;
            check.answered(x, "count(" + what + ")", y -> y.count(asked), want[what]);
        }
        check.bad(x, "count(-1)", y -> y.count(-1));
        check.bad(x, "count(7)", y -> y.count(7));
    }

    private static void digest() {
        PramState x = Check.of(0, 3, 1, 5, 4, 2);
        x.skill(3, 6);
        x.skill(5, 1);
        x.month(2);
        x.nurse(0, 3);
        x.retire(1);
        x.note(0, 1, 2, 1, 0);
        x.note(1, 35, 23, 0, 20);
        x.heard(1, 1);
        x.heard(0, 0);
        x.heard(0, 1);
        x.walks(2, 3);
        Check.type(x, "abc");
        int[] values = {2, 1, 2, 2, 3, 3, 3, 0, 0, 0, 6, 0, 1, 0, 5, 1, 3, 0, 5, 6, 2, 1, 1,
            0, 1, 2, 1, 0, 1, 35, 23, 0, 20, 1, 1, 0, 0, 0, 1, 49, 100};
        long h = 1423;
        for (int v : values) h = 31 * h + v;
        check.due("digest()", x.digest(), h);
        check.answered(x, "digest() again", y -> y.digest(), h);
    }
}
