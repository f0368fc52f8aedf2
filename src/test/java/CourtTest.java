/** Promises 1 to 7: a new object, court, infant, skill, type, clear, read. */
public final class CourtTest {
    private static final Check check = new Check();

    public static void main(String[] args) {
        newObject();
        court();
        infant();
        skill();
        typeAndClear();
        readGood();
        readTakesThePlaceOfAll();
        readFaults();
        readFaultChangesNothing();
        check.end();
    }

    private static void newObject() {
        PramState x = new PramState();
        for (int what = 0; what <= 6; what++) check.due("new: count(" + what + ")", x.count(what), 0);
        for (int what = 0; what <= 2; what++) check.due("new: status(" + what + ")", x.status(what), 0);
        check.due("new: part(0)", x.part(0), 0);
        check.due("new: part(1)", x.part(1), 1);
        check.due("new: reign(0)", x.reign(0), PramState.NONE);
        check.no(x, "new: undo()", y -> y.undo());
        check.no(x, "new: from(0)", y -> y.from(0));
        check.no(x, "new: from(1)", y -> y.from(1));
        for (int n = 0; n < 6; n++) check.due("new: skill(" + n + ", 0)", x.skill(n, 0), 0);
        long h = 1423;
        for (int k = 0; k < 7 + 6 + 1; k++) h = 31 * h;
        check.due("new: digest()", new PramState().digest(), 31 * h + 1);
        check.due("NONE", PramState.NONE, -1);
        check.due("BAD", PramState.BAD, -2);
        check.due("NO", PramState.NO, -3);
        check.due("FULL", PramState.FULL, -4);
    }

    private static void court() {
        PramState x = Check.of(0, 3, 1, 2, 9, 4);
        x.skill(2, 7);
        x.note(0, 1, 2, 1, 0);
        x.heard(1, 1);
        x.image(1);
        x.walks(1, 5);
        x.month(12);
        x.retire(0);
        Check.type(x, "court;");
        x.month(0);
        check.due("court()", x.court(), 2);
        check.due("court(): count(0)", x.count(0), 0);
        check.due("court(): count(1)", x.count(1), 0);
        check.due("court(): count(2)", x.count(2), 0);
        check.due("court(): count(3)", x.count(3), 0);
        check.due("court(): count(4)", x.count(4), 0);
        check.due("court(): count(5)", x.count(5), 0);
        check.due("court(): the text stays", x.count(6), 6);
        check.due("court(): the fraction stays", x.part(0), 1);
        check.due("court(): the fraction stays", x.part(1), 2);
        check.due("court(): status stays", x.status(0), 1);
        check.due("court(): skills are as at first", x.skill(2, 0), 0);
        check.due("court(): infants come anew", x.infant(1, 2, 3), 0);
        check.due("court(): nobody is retired", x.of(0, 4), 0);
        check.due("court(): nurses are as at first", x.of(0, 3), 0);
        check.due("court(): images stay", x.from(1), 1);
        check.due("court(): from(1): count(0)", x.count(0), 2);
        check.due("court() of none", new PramState().court(), 0);
    }

    private static void infant() {
        PramState x = new PramState();
        check.bad(x, "infant(-1, 0, 0)", y -> y.infant(-1, 0, 0));
        check.bad(x, "infant(6, 0, 0)", y -> y.infant(6, 0, 0));
        check.bad(x, "infant(0, -1, 0)", y -> y.infant(0, -1, 0));
        check.bad(x, "infant(0, 36, 0)", y -> y.infant(0, 36, 0));
        check.bad(x, "infant(0, 0, -1)", y -> y.infant(0, 0, -1));
        check.bad(x, "infant(0, 0, 6)", y -> y.infant(0, 0, 6));
        for (int i = 0; i < 6; i++) {
            check.due("infant " + i, x.infant(5 - i, i * 7, (i + 2) % 6), i);
            check.due("its kind", x.of(i, 0), 5 - i);
            check.due("its months", x.of(i, 1), i * 7);
            check.due("its home", x.of(i, 2), (i + 2) % 6);
            check.due("its nurse", x.of(i, 3), i);
            check.due("it is not retired", x.of(i, 4), 0);
        }
        check.full(x, "a 7th infant", y -> y.infant(0, 0, 0));
        check.bad(x, "a 7th infant, and bad", y -> y.infant(0, 36, 0));
        PramState z = Check.of(0, 1, 1);
        z.month(1);
        z.infant(0, 0, 0);
        check.due("infant: none may be undone", z.count(5), 0);
        check.no(z, "infant: undo()", y -> y.undo());
        check.due("infant: the month stays", z.count(2), 1);
    }

    private static void skill() {
        PramState x = Check.of(0, 0, 0);
        check.due("skill(0, 9)", x.skill(0, 9), 0);
        check.due("skill(0, 4)", x.skill(0, 4), 9);
        check.due("skill(5, 1)", x.skill(5, 1), 0);
        check.due("skill(0, 0)", x.skill(0, 0), 4);
        check.due("skill(5, 0)", x.skill(5, 0), 1);
        check.bad(x, "skill(-1, 0)", y -> y.skill(-1, 0));
        check.bad(x, "skill(6, 0)", y -> y.skill(6, 0));
        check.bad(x, "skill(0, -1)", y -> y.skill(0, -1));
        check.bad(x, "skill(0, 10)", y -> y.skill(0, 10));
        x.month(1);
        check.bad(x, "skill(0, 10) with one that may be undone", y -> y.skill(0, 10));
        check.due("a refused skill: it may be undone yet", x.count(5), 1);
        x.skill(3, 0);
        check.due("skill: none may be undone", x.count(5), 0);
        check.no(x, "skill: undo()", y -> y.undo());
    }

    private static void typeAndClear() {
        PramState x = new PramState();
        check.bad(x, "type(-1)", y -> y.type(-1));
        check.bad(x, "type(128)", y -> y.type(128));
        check.due("type(0)", x.type(0), 1);
        check.due("type(127)", x.type(127), 2);
        check.due("count(6)", x.count(6), 2);
        check.due("clear()", x.clear(), 2);
        check.due("clear() again", x.clear(), 0);
        check.due("count(6) when clear", x.count(6), 0);
        for (int k = 1; k <= 150; k++) check.due("type, byte " + k, x.type('a'), k);
        check.full(x, "a 151st byte", y -> y.type('a'));
        check.bad(x, "a 151st byte, and bad", y -> y.type(128));
        check.due("clear() of 150", x.clear(), 150);
        check.due("type behind clear()", x.type('a'), 1);
    }

    private static void reads(String text, int want) {
        PramState x = new PramState();
        Check.type(x, text);
        check.due("read() of '" + text + "'", x.read(), want);
        check.due("read() of '" + text + "': bytes", x.count(6), text.length());
        for (int r = 0; r < 3; r++) check.due("read() of '" + text + "': status(" + r + ")", x.status(r), 0);
    }

    private static void fault(String text, int place) {
        reads(text, -10 - place);
    }

    private static void readGood() {
        reads("court;", 1);
        reads("  court  ;  ", 1);
        reads("court;infant 5 35 5;", 2);
        reads("court;infant0 00 05;skill5 9;nurse0 5;", 4);
        reads("court;skill 5 9;skill 5 09 ; skill 0 0;", 4);
        String six = "court;";
        for (int i = 0; i < 6; i++) six += "infant " + i + " 1" + i + " " + (5 - i) + ";";
        reads(six, 7);
        reads(six + "nurse 5 0;nurse 5 1;", 9);
    }

    private static void readTakesThePlaceOfAll() {
        PramState x = Check.of(0, 3, 1, 2, 9, 4, 0, 1, 1);
        x.skill(2, 7);
        x.walks(1, 5);
        x.image(0);
        x.note(0, 1, 2, 1, 0);
        x.heard(1, 1);
        x.month(12);
        x.retire(2);
        x.month(0);
        Check.type(x, "court;skill 4 9;infant 4 12 3;infant 5 7 2;nurse 0 4;skill 1 1;");
        check.due("read()", x.read(), 6);
        int[] counts = {2, 0, 0, 0, 0, 0, 63};
        for (int what = 0; what <= 6; what++) check.due("read(): count(" + what + ")", x.count(what), counts[what]);
        int[] first = {4, 12, 3, 4, 0, 18};
        int[] second = {5, 7, 2, 1, 0, 14};
        for (int what = 0; what <= 5; what++) {
            check.due("read(): of(0, " + what + ")", x.of(0, what), first[what]);
            check.due("read(): of(1, " + what + ")", x.of(1, what), second[what]);
        }
        int[] skills = {0, 1, 0, 0, 9, 0};
        for (int n = 0; n < 6; n++) check.due("read(): skill " + n, x.skill(n, 0), skills[n]);
        check.due("read(): the fraction stays", x.part(1), 2);
        check.due("read(): status stays", x.status(0), 1);
        check.due("read(): images stay", x.from(0), 1);
        check.due("read(): from(0): count(0)", x.count(0), 3);
        x.clear();
        Check.type(x, "court;");
        x.read();
        check.due("read() again: nothing of the first one is left", x.count(0), 0);
        check.due("read() again: no skill is left", x.skill(4, 0), 0);
    }

    private static void readFaults() {
        fault("", 0);
        fault("  ", 2);
        fault("court", 5);
        fault("court ", 6);
        fault("cour;", 0);
        fault(" courts;", 1);
        fault("xourt;", 0);
        fault("courx;", 0);
        fault("court;xnfant 0 0 0;", 6);
        fault("court;xkill 0 0;", 6);
        fault("court;infant 0 0 0;nursx 0 0;", 19);
        fault("Court;", 0);
        fault("infant 0 0 0;", 0);
        fault("  ;court;", 2);
        fault("1;", 0);
        fault("court;court;", 6);
        fault("court;;", 6);
        fault("court 1;", 6);
        fault("court-;", 5);
        fault("court; \t", 7);
        fault("court;" + (char) 0, 6);
        fault("court;inf", 6);
        fault("court;infant", 12);
        fault("court;infant;", 12);
        fault("court;infant 6 0 0;", 13);
        fault("court;infant 5 36 0;", 15);
        fault("court;infant 5 35 6;", 18);
        fault("court;infant 5 35 5", 19);
        fault("court;infant 5 35 5 ", 20);
        fault("court;infant 5 35 5 5;", 20);
        fault("court;infant 5 35;", 17);
        fault("court;infant 000 0 0;", 13);
        fault("court;infant 0 0000 0;", 15);
        fault("court;infant a 0 0;", 13);
        fault("court;infant -1 0 0;", 13);
        fault("court;skill 6 0;", 12);
        fault("court;skill 5 10;", 14);
        fault("court;skill 5 9", 15);
        fault("court;skill 5 100;", 14);
        fault("court;skill 5 9 9;", 16);
        fault("court;skill 5 9x;", 15);
        fault("court;nurse 0 0;", 12);
        fault("court;infant 0 0 0;nurse 1 0;", 25);
        fault("court;infant 0 0 0;nurse 0 6;", 27);
        fault("court;infant 0 0 0;nurse 0;", 26);
        fault("court;infant 0 0 0;nurse 0 5", 28);
        fault("court;5", 6);
        fault("court;555", 6);
        String six = "court;";
        for (int i = 0; i < 6; i++) six += "infant 0 0 0;";
        fault(six + " infant 9 9 9", six.length() + 1);
    }

    private static void readFaultChangesNothing() {
        PramState x = Check.of(0, 3, 1, 2, 9, 4);
        x.skill(1, 5);
        x.note(0, 1, 2, 1, 0);
        x.month(2);
        Check.type(x, "court;infant 1 1 1;skill 1 9;nurse 0 5;court;");
        check.answered(x, "read() with a fault", y -> y.read(), -10 - 39);
        check.due("read() with a fault: it may be undone yet", x.undo(), 0);
        check.due("read() with a fault: months as ahead", x.of(1, 1), 9);
    }
}
