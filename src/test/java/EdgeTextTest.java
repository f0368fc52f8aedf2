/** The sentences of THE COURT told by a TEXT, at their edges: promises 5 to 7 and the FAULTS. */
public final class EdgeTextTest {
    private static final Check check = new Check();
    private static final String GOOD = "court;infant 5 35 5;skill 5 9;nurse 0 5;";

    public static void main(String[] args) {
        bytesAtMost();
        fullTextIsRead();
        clearedTextIsGone();
        endsTooEarly();
        oneWrongByteInEachPlace();
        everyByteWhereAnItemBegins();
        everyByteBehindAWord();
        everyByteWhereANumberBegins();
        everyByteBehindANumber();
        everyByteWhereAnItemEnds();
        wordsThatAreNone();
        courtOnceFirstOfAll();
        blanksBetween();
        runsOfFigures();
        numbersAsTold();
        infantsThatAreThere();
        seventhInfant();
        itemsTooShortTooLong();
        firstFaultOnly();
        aFaultLeavesAll();
        aCourtReadTakesThePlace();
        readAgain();
        check.end();
    }

    /** What read() answers to a text on a new object; the text stays and nothing is counted. */
    private static void reads(String text, int want) {
        PramState x = new PramState();
        for (int k = 0; k < text.length(); k++) x.type(text.charAt(k));
        check.answered(x, "typed '" + text + "'", y -> y.count(6), text.length());
        check.due("read() of '" + text + "'", x.read(), want);
        check.due("read() of '" + text + "': the text stays", x.count(6), text.length());
        int counted = x.status(0) + x.status(1) + x.status(2);
        check.due("read() of '" + text + "': nothing is counted", counted, 0);
    }

    private static void fault(String text, int place) {
        reads(text, -10 - place);
    }

    /** "A byte (0 .. 127) comes behind THE TEXT: how many it has"; "150 bytes at most". */
    private static void bytesAtMost() {
        PramState x = new PramState();
        for (int k = 1; k <= 150; k++) check.due("byte " + k, x.type(k % 128), k);
        check.full(x, "a 151st byte", y -> y.type(0));
        check.full(x, "a 152nd byte", y -> y.type(127));
        check.due("150 stay", x.count(6), 150);
        check.due("clear() makes room", x.clear(), 150);
        check.due("the first byte again", x.type(127), 1);
        PramState z = new PramState();
        for (int k = 1; k <= 149; k++) z.type(' ');
        check.answered(z, "149 have come", y -> y.count(6), 149);
        check.due("the 150th is taken", z.type(' '), 150);
    }

    /** "150 bytes at most": a text of 150 is read whole, one that wants a 151st byte ends too early. */
    private static void fullTextIsRead() {
        String text = Courts.fullText();
        check.due("bytes of the full text", text.length(), 150);
        reads(text, 13);
        reads(text.substring(0, 149) + " ", -10 - 150);
        reads(text.substring(0, 149), -10 - 149);
        PramState x = new PramState();
        Check.type(x, text.substring(0, 140) + "nurse  5 0");
        check.full(x, "the ; comes too late", y -> y.type(';'));
        check.answered(x, "read() of 150 bytes without it", y -> y.read(), -10 - 150);
        PramState z = new PramState();
        Check.type(z, text);
        check.full(z, "a byte too many", y -> y.type('x'));
        check.due("read() without that byte", z.read(), 13);
        check.due("its last infant's nurse", z.of(5, 3), 0);
        reads(text.substring(0, 149) + "x", -10 - 149);
    }

    /** "THE TEXT is empty: how many it had." */
    private static void clearedTextIsGone() {
        PramState x = new PramState();
        check.answered(x, "clear() of none", y -> y.clear(), 0);
        Check.type(x, "court;infant");
        check.due("clear()", x.clear(), 12);
        check.answered(x, "read() of what is empty again", y -> y.read(), -10);
        x.type('c');
        check.answered(x, "nothing of the old text is read", y -> y.read(), -10);
        x.clear();
        for (int k = 0; k < 6; k++) x.type("court;".charAt(k));
        check.due("a shorter text is read alone", x.read(), 1);
    }

    /** "the TEXT's length, if it ends too early (an empty one, too)"; half a word is "a word that is none". */
    private static void endsTooEarly() {
        fault("", 0);
        fault(" ", 1);
        fault("   ", 3);
        int wordBegins = 0;
        int items = 0;
        for (int length = 1; length <= GOOD.length(); length++) {
            String text = GOOD.substring(0, length);
            char last = text.charAt(length - 1);
            if (last == ';') items++;
            boolean inWord = last >= 'a' && last <= 'z';
            if (inWord && (length == 1 || text.charAt(length - 2) == ';')) wordBegins = length - 1;
            boolean whole = text.endsWith("court") || text.endsWith("infant") || text.endsWith("skill") || text.endsWith("nurse");
            if (last == ';') reads(text, items);
            else fault(text, inWord && !whole ? wordBegins : length);
        }
        fault("court ", 6);
        fault("court;infant 0 0 0  ", 20);
    }

    /** "a byte that begins none": at its own place, but inside a word the word ends there and is none. */
    private static void oneWrongByteInEachPlace() {
        int wordBegins = 0;
        for (int at = 0; at < GOOD.length(); at++) {
            char was = GOOD.charAt(at);
            boolean inWord = was >= 'a' && was <= 'z';
            boolean begins = at == 0 || GOOD.charAt(at - 1) == ';';
            if (begins) wordBegins = at;
            fault(GOOD.substring(0, at) + "-" + GOOD.substring(at + 1), inWord ? wordBegins : at);
            fault(GOOD.substring(0, at) + "A" + GOOD.substring(at + 1), inWord ? wordBegins : at);
        }
    }

    private static boolean letter(int c) {
        return c >= 'a' && c <= 'z';
    }

    private static boolean figure(int c) {
        return c >= '0' && c <= '9';
    }

    private static void everyByteWhereAnItemBegins() {
        for (int c = 0; c <= 127; c++) {
            String text = "court;" + (char) c;
            if (c == ' ') reads(text, 1);
            else fault(text, 6);
            if (c == ' ') reads((char) c + "court;", 1);
            else fault((char) c + "court;", 0);
        }
    }

    private static void everyByteBehindAWord() {
        for (int c = 0; c <= 127; c++) {
            String text = "court" + (char) c;
            if (c == ';') reads(text, 1);
            else if (c == ' ') fault(text, 6);
            else fault(text, letter(c) ? 0 : 5);
            String infant = "court;infant" + (char) c;
            if (c == ' ' || c >= '0' && c <= '5') fault(infant, 13);
            else fault(infant, letter(c) ? 6 : 12);
        }
    }

    private static void everyByteWhereANumberBegins() {
        for (int c = 0; c <= 127; c++) {
            String text = "court;skill " + (char) c + " 9;";
            if (c >= '0' && c <= '5') reads(text, 2);
            // behind blanks alone the 9 is the nurse's number, and there is no such one
            else fault(text, c == ' ' ? 14 : 12);
        }
    }

    private static void everyByteBehindANumber() {
        for (int c = 0; c <= 127; c++) {
            // 0 and a figure are one number: 00 to 09 as a skill
            String text = "court;skill 5 0" + (char) c;
            if (c == ';') reads(text, 2);
            else if (c == ' ' || figure(c)) fault(text, 16);
            else fault(text, 15);
        }
    }

    private static void everyByteWhereAnItemEnds() {
        for (int c = 0; c <= 127; c++) {
            String text = "court;skill 5 9 " + (char) c;
            if (c == ';') reads(text, 2);
            else if (c == ' ') fault(text, 17);
            else fault(text, 16);
        }
    }

    /** "a word that is none", and words that stand where another TOKEN must. */
    private static void wordsThatAreNone() {
        for (String word : new String[] {"cour", "courts", "infan", "infants", "skil", "skills", "nurs", "nurses", "a",
            "court" + "court", "month", "retire", "infantt", "xskill"}) {
            fault("court;" + word + " 0 0 0;", 6);
            fault("  " + word + ";", 2);
        }
        fault("court;infant skill 0 0;", 13);
        fault("court;infant 0 nurse 0;", 15);
        fault("court;infant 0 0 court;", 17);
        fault("court;infant 0 0 0 skill", 19);
        fault("court infant 0 0 0;", 6);
        fault("courtinfant 0 0 0;", 0);
        fault("court;skill 0 0 nurse 0 0;", 16);
    }

    /** "court (once, first of all)"; "court again, anything ahead of it". */
    private static void courtOnceFirstOfAll() {
        reads("court;", 1);
        fault("court;court;", 6);
        fault("court; court;", 7);
        fault("court;infant 0 0 0;court;", 19);
        fault("infant 0 0 0;court;", 0);
        fault("skill 0 0;court;", 0);
        fault("nurse 0 0;court;", 0);
        fault(";court;", 0);
        fault(" ;court;", 1);
        fault("0 court;", 0);
        fault("000 court;", 0);
        fault("court;;", 6);
        fault("court; ;", 7);
        fault("court 0;", 6);
        fault("court court;", 6);
    }

    /** "blanks (32) between": none, one or many; no other byte is a blank. */
    private static void blanksBetween() {
        reads("   court   ;   infant   5   35   5   ;   ", 2);
        reads("court;infant5 35 5;nurse0 0;skill0 0;", 4);
        for (int c : new int[] {0, 9, 10, 13, 31, 33, 127}) fault("court;" + (char) c + "skill 0 0;", 6);
        fault("cou rt;", 0);
        fault("court;skill 1 2 3;", 16);
        // what a blank parts is two numbers, what it does not part is one
        reads("court;infant 1 2 3;", 2);
        fault("court;infant 12 3;", 13);
        fault("court;infant 1 23;", 17);
    }

    /** "figures (1 or 2 are one number)"; "a run of three figures or more (at its first one)". */
    private static void runsOfFigures() {
        reads("court;skill 0 9;", 2);
        reads("court;skill 00 09;", 2);
        fault("court;skill 000 9;", 12);
        fault("court;skill 0000 9;", 12);
        fault("court;skill 0 009;", 14);
        fault("court;skill 0 9 000;", 16);
        fault("court;skill 0 9000;", 14);
        fault("court;000;", 6);
        fault("court;infant 5 035 5;", 15);
        fault("court;infant 05 35 005;", 19);
        fault("court;skill 1" + "0".repeat(100) + " 1;", 12);
        PramState x = new PramState();
        Check.type(x, "court;infant 05 07 03;nurse 00 04;");
        check.due("read() of numbers with a 0 ahead", x.read(), 3);
        int[] want = {5, 7, 3, 4};
        for (int what = 0; what < 4; what++) check.due("of(0, " + what + ")", x.of(0, what), want[what]);
        Check.type(x, "court;infant 0 10 0;");
        x.read();
        check.due("ten is 1, then 0", x.of(0, 1), 10);
        Check.type(x, "court;infant 0 01 0;");
        x.read();
        check.due("one is 0, then 1", x.of(0, 1), 1);
    }

    /** "a number not as told": of each number the most is taken and one more is the FAULT. */
    private static void numbersAsTold() {
        for (int v = 0; v <= 99; v++) {
            asTold("court;infant ", v, " 0 0;", 5);
            asTold("court;infant 0 ", v, " 0;", 35);
            asTold("court;infant 0 0 ", v, ";", 5);
            asTold("court;skill ", v, " 0;", 5);
            asTold("court;skill 0 ", v, ";", 9);
        }
    }

    private static void asTold(String ahead, int v, String behind, int most) {
        if (v <= most) reads(ahead + v + behind, 2);
        else fault(ahead + v + behind, ahead.length());
    }

    /** "a number not as told, also an INFANT that is not there yet". */
    private static void infantsThatAreThere() {
        String court = "court;";
        for (int infants = 0; infants <= 6; infants++) {
            for (int i = 0; i <= 7; i++) {
                String text = court + "nurse " + i + " 5;";
                if (i < infants) reads(text, infants + 2);
                else fault(text, court.length() + 6);
            }
            fault(court + "nurse 99 5;", court.length() + 6);
            court += "infant 0 0 0;";
        }
        reads("court;infant 0 0 0;nurse 0 5;", 3);
        fault("court;infant 0 0 0;nurse 0 6;", 27);
        fault("court;nurse 0 5;infant 0 0 0;", 12);
        fault("court;infant 0 0 0;nurse 1 0;infant 0 0 0;", 25);
        // infants of the court ahead are not there in the one that is told
        PramState x = Courts.full();
        Check.type(x, "court;nurse 0 0;");
        check.answered(x, "an infant of the old court", y -> y.read(), -10 - 12);
    }

    /** "a 7th infant at its word", whatever comes behind it. */
    private static void seventhInfant() {
        String six = "court;";
        for (int i = 0; i < 6; i++) six += "infant " + i + " 0 0;";
        reads(six, 7);
        fault(six + "infant 0 0 0;", six.length());
        fault(six + "  infant 0 0 0;", six.length() + 2);
        fault(six + "infant", six.length());
        fault(six + "infant 9 9 9;", six.length());
        fault(six + "infant;", six.length());
        reads(six + "skill 0 0;nurse 5 5;", 9);
        fault(six + "skill 0 0;infant 0 0 0;", six.length() + 10);
        reads(six.substring(0, six.length() - 13) + "infant 0 0 0;", 7);
    }

    /** "infant KIND MONTHS HOME; skill n s; nurse i n": a number too few, the FAULT is the ; and one too many, the number. */
    private static void itemsTooShortTooLong() {
        fault("court;infant;", 12);
        fault("court;infant 1;", 14);
        fault("court;infant 1 2;", 16);
        reads("court;infant 1 2 3;", 2);
        fault("court;infant 1 2 3 4;", 19);
        fault("court;skill;", 11);
        fault("court;skill 1;", 13);
        reads("court;skill 1 2;", 2);
        fault("court;skill 1 2 3;", 16);
        fault("court;infant 0 0 0;nurse;", 24);
        fault("court;infant 0 0 0;nurse 0;", 26);
        reads("court;infant 0 0 0;nurse 0 1;", 3);
        fault("court;infant 0 0 0;nurse 0 1 2;", 29);
        fault("court 1;", 6);
    }

    /** "the first TOKEN that can not stand there": of several it is the first, however wrong the others are. */
    private static void firstFaultOnly() {
        fault("court;infant 6 36 6;", 13);
        fault("court;infant 5 36 6;", 15);
        fault("court;infant 5 35 6-", 18);
        fault("court;skill 6 10;", 12);
        fault("court;infant 0 0 0;nurse 1 6;", 25);
        fault("- court;", 0);
        fault("court;infant 0 0 0;nurse 0 000 court", 27);
    }

    /** "-10 less the FAULT: all stays": what had been read well ahead of the FAULT does not come either. */
    private static void aFaultLeavesAll() {
        String[] texts = {"", "x", "court", "court;infant 1 1 1;skill 1 9;nurse 0 5;court;", "court;infant 1 1 1",
            "court;infant 1 1 1;infant 6", "court;skill 0 9;skill 1 9;skill 2 10;"};
        int[] faults = {0, 0, 5, 39, 18, 26, 34};
        for (int k = 0; k < texts.length; k++) {
            String text = texts[k];
            check.leavesAll(() -> withText(Courts.two(), text), -1, "read() of '" + text + "'", x -> x.read(), -10 - faults[k]);
            check.leavesAll(() -> withText(Courts.full(), text), -1, "six: read() of '" + text + "'", x -> x.read(), -10 - faults[k]);
            check.leavesAll(() -> withText(Courts.empty(), text), -1, "none: read() of '" + text + "'", x -> x.read(), -10 - faults[k]);
        }
    }

    private static PramState withText(PramState x, String text) {
        Check.type(x, text);
        return x;
    }

    /** "takes the place of all but IMAGES, THE TEXT, THE FRACTION, STATUS (MONTH 0, NOTES, HEARD none; nothing to undo)". */
    private static void aCourtReadTakesThePlace() {
        PramState x = Courts.full();
        x.infant(0, 0, 0);
        x.month(0);
        x.undo();
        Check.type(x, "court;infant 4 17 3;skill 5 9;");
        int bytes = x.count(6);
        long above = x.part(0);
        long below = x.part(1);
        int[] status = {x.status(0), x.status(1), x.status(2)};
        check.due("read()", x.read(), 3);
        int[] counts = {1, 0, 0, 0, 0, 0, bytes};
        for (int what = 0; what <= 6; what++) check.due("count(" + what + ")", x.count(what), counts[what]);
        int[] infant = {4, 17, 3, 0, 0, 18};
        for (int what = 0; what <= 5; what++) check.due("of(0, " + what + ")", x.of(0, what), infant[what]);
        check.due("the fraction stays, above", x.part(0), above);
        check.due("the fraction stays, below", x.part(1), below);
        for (int r = 0; r < 3; r++) check.due("status(" + r + ") stays", x.status(r), status[r]);
        check.no(x, "nothing to undo", y -> y.undo());
        check.bad(x, "no second infant", y -> y.of(1, 0));
        check.due("no hour was heard", x.which(), (1 << 24) - 1);
        check.due("nothing was noted", x.is(0), 63);
        check.due("a second one comes with its own number as its nurse", x.infant(0, 0, 0), 1);
        check.due("its nurse", x.of(1, 3), 1);
        check.due("it is not retired", x.of(1, 4), 0);
        int[] skills = {0, 0, 0, 0, 0, 9};
        for (int n = 0; n < 6; n++) check.due("skill of " + n, x.skill(n, 0), skills[n]);
        check.due("image 0 stays", x.from(0), 1);
        check.due("image 0: infants", x.count(0), 6);
        check.due("image 1 stays", x.from(1), 1);
        check.due("image 1: what may be undone", x.count(5), 7);
    }

    /** The text stays behind read(), so it can be read again, and be gone on with. */
    private static void readAgain() {
        PramState x = new PramState();
        Check.type(x, GOOD);
        check.due("read()", x.read(), 4);
        x.month(3);
        x.note(0, 1, 1, 1, 0);
        check.due("read() again", x.read(), 4);
        check.due("the month is 0 again", x.count(2), 0);
        check.due("one infant, not two", x.count(0), 1);
        check.due("its months again", x.of(0, 1), 35);
        for (char c : "skill 1 3;".toCharArray()) x.type(c);
        check.due("read() of more", x.read(), 5);
        check.due("what was told then", x.skill(1, 3), 3);
        x.type('x');
        check.answered(x, "read() of too much", y -> y.read(), -10 - 50);
        check.due("all stays", x.skill(1, 3), 3);
    }
}
