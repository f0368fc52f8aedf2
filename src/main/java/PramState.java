import java.util.Arrays;

/** A dynasty of infants in prams: who sleeps, cries, reigns, walks and meets. See ../shared/DOC.md. */
public final class PramState {
    public static final int NONE = -1, BAD = -2, NO = -3, FULL = -4;

    private static final int INFANTS = 6;
    private static final int KINDS = 6;
    private static final int PLACES = 6;
    private static final int NURSES = 6;
    private static final int HOURS = 24;
    private static final int WAKING = 7;
    private static final int MOST_SKILL = 9;
    private static final int MOST_MONTHS = 35;
    private static final int LAST_MONTH = 999;
    private static final int AHEAD = 60;
    private static final int ITEMS_KEPT = 6;
    private static final int IMAGES = 2;
    private static final int TEXT = 150;
    private static final int ALL_PAIRS = 15;

    private final Court now;
    private final Court[] images;
    private final boolean[] kept;
    private final CourtText text;
    private final NursePlan plan;
    private long above;
    private long below;
    private int badCalls;
    private int noCalls;
    private int fullCalls;

    public PramState() {
        Plain[] kinds = {new Plain(), new Twin(), new Teether(), new Early(), new Late(), new Bear()};
        now = new Court(kinds);
        images = new Court[] {new Court(kinds), new Court(kinds)};
        kept = new boolean[IMAGES];
        text = new CourtText(new Court(kinds));
        plan = new NursePlan();
        above = 0;
        below = 1;
    }

    // ---- a court

    public int court() {
        int before = now.infants;
        now.begin();
        return before;
    }

    public int infant(int kind, int months, int home) {
        if (!within(kind, KINDS - 1) || !within(months, MOST_MONTHS) || !within(home, PLACES - 1)) return bad(BAD);
        if (now.infants >= INFANTS) return full();
        now.add(kind, months, home);
        return now.infants - 1;
    }

    public int skill(int n, int s) {
        if (!within(n, NURSES - 1) || !within(s, MOST_SKILL)) return bad(BAD);
        int before = now.skills[n];
        now.setSkill(n, s);
        return before;
    }

    public int type(int c) {
        if (!within(c, 127)) return bad(BAD);
        if (text.length >= TEXT) return full();
        text.append(c);
        return text.length;
    }

    public int clear() {
        int before = text.length;
        text.length = 0;
        return before;
    }

    public int read() {
        int items = text.readCourt();
        if (items >= 0) now.copyFrom(text.draft);
        return items;
    }

    // ---- months

    public int month(int n) {
        if (n < 1 || n > AHEAD) return bad(BAD);
        now.remember();
        for (int k = 0; k < n; k++) now.passMonth();
        return now.sovereign(0);
    }

    public int nurse(int i, int n) {
        if (!isInfant(i) || !within(n, NURSES - 1)) return bad(BAD);
        int before = now.nurse[i];
        now.remember();
        now.nurse[i] = n;
        return before;
    }

    public int retire(int i) {
        if (!isInfant(i)) return bad(BAD);
        if (now.isRetired(i)) return no();
        now.remember();
        now.retired |= 1 << i;
        return Integer.bitCount(now.retired);
    }

    public int undo() {
        if (now.pasts <= 0) return no();
        now.recall();
        return now.month;
    }

    public int of(int i, int what) {
        if (!isInfant(i)) return bad(BAD);
        switch (what) {
            case 0: return now.kind[i];
            case 1: return now.months[i];
            case 2: return now.home[i];
            case 3: return now.nurse[i];
            case 4: return bit(now.isRetired(i));
            case 5: return now.walkingAge(i);
            default: return bad(BAD);
        }
    }

    // ---- who reigns

    public int hour(int i, int h, int what) {
        if (!isInfant(i) || !within(h, HOURS - 1) || !within(what, 1)) return bad(BAD);
        return what == 0 ? bit(now.isAsleep(i, h)) : now.criesAt(i, h, now.nurse[i]);
    }

    public int day(int i) {
        if (!isInfant(i)) return bad(BAD);
        return now.criesAllDay(i, now.nurse[i]);
    }

    public int reign(int m) {
        if (!within(m, AHEAD)) return bad(BAD);
        return now.sovereign(m);
    }

    public int falls() {
        int who = now.sovereign(0);
        if (who == NONE) return NONE;
        for (int m = 1; m <= AHEAD; m++) {
            if (now.sovereign(m) != who) return m;
        }
        return NONE;
    }

    public int line(int i, int what) {
        if (i < NONE || !within(what, 1)) return bad(-10);
        int heirs = 0;
        int last = NONE;
        int reigned = 0;
        // who reigns is always the oldest that does not walk yet, so one that has ceased never comes again
        for (int m = 0; m <= AHEAD; m++) {
            int who = now.sovereign(m);
            if (who == NONE) break;
            if (who != last) {
                if (i >= 0 && heirs == i + 1) break;
                heirs++;
                last = who;
                reigned = 0;
            }
            reigned++;
        }
        if (i == NONE) return heirs;
        if (i >= heirs) return -5;
        return what == 0 ? last : reigned;
    }

    public int meet(int a, int b) {
        if (!isInfant(a) || !isInfant(b) || a == b) return bad(BAD);
        if (now.isRetired(a) || now.isRetired(b)) return no();
        for (int h = WAKING; h < HOURS; h++) {
            for (int place = 0; place < PLACES; place++) {
                if (now.canBeAwakeAt(a, h, place) && now.canBeAwakeAt(b, h, place)) return 10 * h + place;
            }
        }
        return NONE;
    }

    public int congress(int what) {
        if (!within(what, 1)) return bad(BAD);
        int most = 0;
        int where = NONE;
        for (int h = WAKING; h < HOURS; h++) {
            for (int place = 0; place < PLACES; place++) {
                int there = now.awakeAt(h, place);
                if (there > most) {
                    most = there;
                    where = 10 * h + place;
                }
            }
        }
        if (most == 0) return NONE;
        return what == 0 ? where : most;
    }

    public int nurses(int i) {
        if (i != NONE && !isInfant(i)) return bad(-10);
        plan.weigh(now);
        return i == NONE ? plan.least() : plan.nurseOf(i);
    }

    public int visit() {
        int who = now.sovereign(0);
        if (who == NONE) return NONE;
        int best = NONE;
        int least = 0;
        for (int h = 0; h < HOURS; h++) {
            if (now.isAsleep(who, h)) continue;
            int cries = now.criesAt(who, h, now.nurse[who]);
            if (best == NONE || cries < least) {
                best = h;
                least = cries;
            }
        }
        return best;
    }

    // ---- what they are

    public int note(int i, int m, int h, int slept, int x) {
        if (!isInfant(i) || !within(m, MOST_MONTHS) || !within(h, HOURS - 1)) return bad(BAD);
        if (!within(slept, 1) || !within(x, 20)) return bad(BAD);
        if (now.notes >= ITEMS_KEPT) return full();
        now.addNote(i, m, h, slept, x);
        return now.notes;
    }

    public int heard(int i, int awake) {
        if (!isInfant(i) || !within(awake, 1)) return bad(BAD);
        if (now.sounds >= ITEMS_KEPT) return full();
        now.addSound(i, awake);
        return now.sounds;
    }

    public int forget(int what) {
        if (!within(what, 1)) return bad(BAD);
        int before = what == 0 ? now.notes : now.sounds;
        if (what == 0) now.notes = 0;
        else now.sounds = 0;
        return before;
    }

    public int is(int i) {
        if (!isInfant(i)) return bad(BAD);
        return now.kindsThatFit(i);
    }

    public int listen(int i) {
        if (!isInfant(i)) return bad(BAD);
        int fitting = now.kindsThatFit(i);
        if (fitting == 0) return NONE;
        int best = 0;
        int fewest = KINDS + 1;
        for (int h = 0; h < HOURS; h++) {
            int alike = now.mostAlike(fitting, now.months[i], h);
            if (alike < fewest) {
                fewest = alike;
                best = h;
            }
        }
        return best;
    }

    public int which() {
        int hours = 0;
        for (int h = 0; h < HOURS; h++) {
            if (now.mayHaveBeen(h)) hours |= 1 << h;
        }
        return hours;
    }

    public int powers(int h) {
        if (!within(h, HOURS - 1)) return bad(BAD);
        int who = now.sovereign(0);
        if (who == NONE || now.isAsleep(who, h)) return ALL_PAIRS;
        int cries = now.criesAt(who, h, now.nurse[who]);
        int pairs = 0;
        for (int pair = 0; pair <= 3; pair++) {
            int first = pair & 1;
            int second = pair >> 1;
            if (contentWith(cries, first, second) && contentWith(cries, second, first)) pairs |= 1 << pair;
        }
        return pairs;
    }

    public int walks(int m, int c) {
        if (!within(m, 9) || !within(c, 10)) return bad(BAD);
        int who = now.sovereign(0);
        if (who == NONE) return no();
        above = 0;
        below = 1;
        if (now.sovereign(m) == who) setPower(10 - c, m);
        return 1;
    }

    public int dynasties(int seed, int n) {
        if (!within(seed, 999999) || !within(n, AHEAD)) return bad(BAD);
        long x = seed;
        int sum = 0;
        for (int k = 0; k < n; k++) {
            int who = NONE;
            int oldest = NONE;
            for (int i = 0; i < now.infants; i++) {
                x = (x * 1103515245L + 12345L) % 2147483648L;
                int months = (int) (x / 65536L % (MOST_MONTHS + 1)) + 1;
                if (months < now.walkingAge(i) && months > oldest) {
                    oldest = months;
                    who = i;
                }
            }
            sum += who + 1;
        }
        return sum;
    }

    // ---- what there is

    public long part(int what) {
        if (!within(what, 1)) return bad(BAD);
        return what == 0 ? above : below;
    }

    public int image(int i) {
        if (!within(i, IMAGES - 1)) return bad(BAD);
        images[i].copyFrom(now);
        kept[i] = true;
        return 1;
    }

    public int from(int i) {
        if (!within(i, IMAGES - 1)) return bad(BAD);
        if (!kept[i]) return no();
        now.copyFrom(images[i]);
        return 1;
    }

    public int status(int what) {
        switch (what) {
            case 0: return badCalls;
            case 1: return noCalls;
            case 2: return fullCalls;
            default: return bad(-1);
        }
    }

    public int count(int what) {
        if (!within(what, 6)) return bad(BAD);
        return tally(what);
    }

    public long digest() {
        long h = 1423;
        for (int what = 0; what <= 6; what++) h = 31 * h + tally(what);
        h = now.digestFrom(h);
        h = 31 * h + above;
        return 31 * h + below;
    }

    // ---- refusals and small helpers

    private int bad(int answer) {
        badCalls++;
        return answer;
    }

    private int no() {
        noCalls++;
        return NO;
    }

    private int full() {
        fullCalls++;
        return FULL;
    }

    private boolean isInfant(int i) {
        return i >= 0 && i < now.infants;
    }

    private int tally(int what) {
        switch (what) {
            case 0: return now.infants;
            case 1: return Integer.bitCount(now.retired);
            case 2: return now.month;
            case 3: return now.notes;
            case 4: return now.sounds;
            case 5: return now.pasts;
            default: return text.length;
        }
    }

    private static boolean within(int x, int most) {
        return x >= 0 && x <= most;
    }

    private static int bit(boolean yes) {
        return yes ? 1 : 0;
    }

    /** Whether one power gets no more by the other deed, while the other power keeps to its own. */
    private static boolean contentWith(int cries, int own, int other) {
        return gain(cries, own, other) >= gain(cries, 1 - own, other);
    }

    private static int gain(int cries, int own, int other) {
        int all = cries + 2 * (own + other);
        return own == 0 ? 3 - all / 2 : 4 - all;
    }

    /** THE FRACTION becomes (chance by 10) to the power m; the base is made lowest first, so the power is lowest too. */
    private void setPower(int chance, int m) {
        int common = commonWithTen(chance);
        above = 1;
        below = 1;
        for (int k = 0; k < m; k++) {
            above *= chance / common;
            below *= 10 / common;
        }
    }

    private static int commonWithTen(int x) {
        if (x % 10 == 0) return 10;
        if (x % 5 == 0) return 5;
        return x % 2 == 0 ? 2 : 1;
    }

    // ---- kinds, each under the one that it extends (LANGUAGE.md lists no annotation, so none marks what overrides)

    private static class Plain {
        boolean sleepsIn(int h) {
            return h >= 19 || h < 7 || h == 12 || h == 13;
        }

        int criesAwake(int months) {
            return months < 6 ? 3 : 2;
        }

        int walksWith() {
            return 14;
        }
    }

    private static class Twin extends Plain {
        int criesAwake(int months) {
            return 2 * super.criesAwake(months);
        }
    }

    private static final class Teether extends Plain {
        boolean sleepsIn(int h) {
            return h != 2 && h != 3 && super.sleepsIn(h);
        }

        int criesAwake(int months) {
            int plain = super.criesAwake(months);
            return months >= 6 && months <= 11 ? plain + 3 : plain;
        }
    }

    private static final class Early extends Plain {
        int walksWith() {
            return super.walksWith() - 3;
        }
    }

    private static final class Late extends Plain {
        boolean sleepsIn(int h) {
            return h == 14 || (h != 12 && super.sleepsIn(h));
        }

        int walksWith() {
            return super.walksWith() + 4;
        }
    }

    private static final class Bear extends Twin {
        boolean sleepsIn(int h) {
            return h == 17 || super.sleepsIn(h);
        }

        int criesAwake(int months) {
            return super.criesAwake(months) - 1;
        }
    }

    /** All that an image keeps: infants, skills, the month, notes, what was heard, and what may be undone. */
    private static final class Court {
        private static final int PASTS = 8;
        private static final int PAST_WIDTH = 2 + 2 * INFANTS;
        private static final int NOTE_WIDTH = 5;
        private static final int SOUND_WIDTH = 2;

        final Plain[] kinds;
        final int[] kind = new int[INFANTS];
        final int[] months = new int[INFANTS];
        final int[] home = new int[INFANTS];
        final int[] nurse = new int[INFANTS];
        final int[] skills = new int[NURSES];
        final int[] noteRow = new int[ITEMS_KEPT * NOTE_WIDTH];
        final int[] soundRow = new int[ITEMS_KEPT * SOUND_WIDTH];
        final int[] pastRow = new int[PASTS * PAST_WIDTH];
        int infants;
        int retired;
        int month;
        int notes;
        int sounds;
        int pasts;

        Court(Plain[] kinds) {
            this.kinds = kinds;
        }

        void begin() {
            infants = 0;
            retired = 0;
            month = 0;
            notes = 0;
            sounds = 0;
            pasts = 0;
            Arrays.fill(skills, 0);
        }

        void copyFrom(Court other) {
            System.arraycopy(other.kind, 0, kind, 0, INFANTS);
            System.arraycopy(other.months, 0, months, 0, INFANTS);
            System.arraycopy(other.home, 0, home, 0, INFANTS);
            System.arraycopy(other.nurse, 0, nurse, 0, INFANTS);
            System.arraycopy(other.skills, 0, skills, 0, NURSES);
            System.arraycopy(other.noteRow, 0, noteRow, 0, ITEMS_KEPT * NOTE_WIDTH);
            System.arraycopy(other.soundRow, 0, soundRow, 0, ITEMS_KEPT * SOUND_WIDTH);
            System.arraycopy(other.pastRow, 0, pastRow, 0, PASTS * PAST_WIDTH);
            infants = other.infants;
            retired = other.retired;
            month = other.month;
            notes = other.notes;
            sounds = other.sounds;
            pasts = other.pasts;
        }

        /** The caller has seen that there is room. */
        void add(int itsKind, int itsMonths, int itsHome) {
            int i = infants;
            if (i >= INFANTS) return;
            kind[i] = itsKind;
            months[i] = itsMonths;
            home[i] = itsHome;
            nurse[i] = i;
            infants = i + 1;
            pasts = 0;
        }

        void setSkill(int n, int s) {
            skills[n] = s;
            pasts = 0;
        }

        void addNote(int i, int m, int h, int slept, int x) {
            if (notes >= ITEMS_KEPT) return;
            int at = notes * NOTE_WIDTH;
            noteRow[at] = i;
            noteRow[at + 1] = m;
            noteRow[at + 2] = h;
            noteRow[at + 3] = slept;
            noteRow[at + 4] = x;
            notes++;
        }

        void addSound(int i, int awake) {
            if (sounds >= ITEMS_KEPT) return;
            int at = sounds * SOUND_WIDTH;
            soundRow[at] = i;
            soundRow[at + 1] = awake;
            sounds++;
        }

        /** Keeps what a change may be undone to; the oldest makes way when all places are taken. */
        void remember() {
            if (pasts >= PASTS) {
                System.arraycopy(pastRow, PAST_WIDTH, pastRow, 0, (PASTS - 1) * PAST_WIDTH);
                pasts = PASTS - 1;
            }
            int at = pasts * PAST_WIDTH;
            pastRow[at] = month;
            pastRow[at + 1] = retired;
            System.arraycopy(months, 0, pastRow, at + 2, INFANTS);
            System.arraycopy(nurse, 0, pastRow, at + 2 + INFANTS, INFANTS);
            pasts++;
        }

        void recall() {
            if (pasts <= 0) return;
            pasts--;
            int at = pasts * PAST_WIDTH;
            month = pastRow[at];
            retired = pastRow[at + 1];
            System.arraycopy(pastRow, at + 2, months, 0, INFANTS);
            System.arraycopy(pastRow, at + 2 + INFANTS, nurse, 0, INFANTS);
        }

        void passMonth() {
            for (int i = 0; i < infants; i++) {
                if (isRetired(i)) continue;
                months[i]++;
                if (months[i] >= walkingAge(i)) retired |= 1 << i;
            }
            if (month < LAST_MONTH) month++;
        }

        boolean isRetired(int i) {
            return (retired >> i & 1) == 1;
        }

        int walkingAge(int i) {
            return kinds[kind[i]].walksWith();
        }

        boolean isAsleep(int i, int h) {
            return kinds[kind[i]].sleepsIn(h);
        }

        int criesAt(int i, int h, int n) {
            if (isAsleep(i, h)) return 0;
            return Math.max(0, kinds[kind[i]].criesAwake(months[i]) - skills[n] / 2);
        }

        int criesAllDay(int i, int n) {
            int sum = 0;
            for (int h = 0; h < HOURS; h++) sum += criesAt(i, h, n);
            return sum;
        }

        /** Who reigns when m more months have gone by: all grow alike, so the oldest of now that does not walk by then. */
        int sovereign(int m) {
            int who = NONE;
            for (int i = 0; i < infants; i++) {
                if (isRetired(i) || (m > 0 && months[i] + m >= walkingAge(i))) continue;
                if (who == NONE || months[i] > months[who]) who = i;
            }
            return who;
        }

        boolean canBeAwakeAt(int i, int h, int place) {
            int steps = Math.abs(home[i] - place);
            return Math.min(steps, PLACES - steps) <= h - WAKING && !isAsleep(i, h);
        }

        int awakeAt(int h, int place) {
            int there = 0;
            for (int i = 0; i < infants; i++) {
                if (!isRetired(i) && canBeAwakeAt(i, h, place)) there++;
            }
            return there;
        }

        int kindsThatFit(int i) {
            int fitting = 0;
            for (int k = 0; k < KINDS; k++) {
                if (fitsNotes(k, i)) fitting |= 1 << k;
            }
            return fitting;
        }

        private boolean fitsNotes(int k, int i) {
            for (int n = 0; n < notes; n++) {
                int at = n * NOTE_WIDTH;
                if (noteRow[at] != i) continue;
                int told = noteRow[at + 3] * 100 + noteRow[at + 4];
                if (manner(k, noteRow[at + 1], noteRow[at + 2]) != told) return false;
            }
            return true;
        }

        /** Sleep and crying of a kind without a nurse, in one number; crying stays far below 100. */
        private int manner(int k, int m, int h) {
            return kinds[k].sleepsIn(h) ? 100 : kinds[k].criesAwake(m);
        }

        /** How large the largest group of these kinds is that can not be told apart in an hour. */
        int mostAlike(int fitting, int m, int h) {
            int most = 0;
            for (int k = 0; k < KINDS; k++) {
                if ((fitting >> k & 1) == 0) continue;
                int alike = 0;
                for (int j = 0; j < KINDS; j++) {
                    if ((fitting >> j & 1) == 1 && manner(j, m, h) == manner(k, m, h)) alike++;
                }
                most = Math.max(most, alike);
            }
            return most;
        }

        boolean mayHaveBeen(int h) {
            for (int n = 0; n < sounds; n++) {
                int at = n * SOUND_WIDTH;
                if (isAsleep(soundRow[at], h) == (soundRow[at + 1] == 1)) return false;
            }
            return true;
        }

        long digestFrom(long start) {
            long h = start;
            for (int n = 0; n < NURSES; n++) h = 31 * h + skills[n];
            for (int i = 0; i < infants; i++) {
                h = 31 * h + kind[i];
                h = 31 * h + months[i];
                h = 31 * h + home[i];
                h = 31 * h + nurse[i];
                h = 31 * h + (retired >> i & 1);
            }
            for (int k = 0; k < notes * NOTE_WIDTH; k++) h = 31 * h + noteRow[k];
            for (int k = 0; k < sounds * SOUND_WIDTH; k++) h = 31 * h + soundRow[k];
            return h;
        }
    }

    /** Which nurse for whom so that least is cried; its rows are used again by every call. */
    private static final class NursePlan {
        private static final int SETS = 1 << NURSES;
        /** More than six infants can cry in a day. */
        private static final int BEYOND_ALL = 1000000;

        private final int[] dues = new int[INFANTS];
        private final int[] cost = new int[INFANTS * NURSES];
        private final int[] rest = new int[SETS];
        private int awaiting;

        /** rest[taken]: the least that is cried by those who have no nurse yet when these nurses are taken, in order. */
        void weigh(Court court) {
            awaiting = 0;
            for (int i = 0; i < court.infants; i++) {
                if (court.isRetired(i)) continue;
                dues[awaiting] = i;
                for (int n = 0; n < NURSES; n++) cost[awaiting * NURSES + n] = court.criesAllDay(i, n);
                awaiting++;
            }
            for (int taken = SETS - 1; taken >= 0; taken--) {
                int place = Integer.bitCount(taken);
                rest[taken] = place < awaiting ? costOf(place, firstBest(place, taken), taken) : 0;
            }
        }

        int least() {
            return rest[0];
        }

        int nurseOf(int infant) {
            int taken = 0;
            for (int place = 0; place < awaiting; place++) {
                int n = firstBest(place, taken);
                if (dues[place] == infant) return n;
                taken |= 1 << n;
            }
            return NONE;
        }

        /** The first of the free nurses by whom least is cried by this one and all behind it; one is always free. */
        private int firstBest(int place, int taken) {
            int best = 0;
            int least = BEYOND_ALL;
            for (int n = 0; n < NURSES; n++) {
                if ((taken >> n & 1) == 1) continue;
                int all = costOf(place, n, taken);
                if (all < least) {
                    least = all;
                    best = n;
                }
            }
            return best;
        }

        private int costOf(int place, int n, int taken) {
            return cost[place * NURSES + n] + rest[taken | 1 << n];
        }
    }

    /** THE TEXT, and how a court is read from it: into a draft, so that a fault leaves all as it was. */
    private static final class CourtText {
        private static final int END = 0;
        private static final int WORD = 1;
        private static final int NUMBER = 2;
        private static final int MARK = 3;
        private static final int WRONG = 4;

        final Court draft;
        int length;
        private final byte[] bytes = new byte[TEXT];
        private int token;
        private int start;
        private int behind;
        private int value;

        CourtText(Court draft) {
            this.draft = draft;
        }

        /** The caller has seen that there is room. */
        void append(int c) {
            if (length >= TEXT) return;
            bytes[length] = (byte) c;
            length++;
        }

        /** How many items, or -10 less the fault: at a fault the token that can not stand there is the one at hand. */
        int readCourt() {
            behind = 0;
            draft.begin();
            advance();
            int items = 0;
            // every item takes a byte at least
            for (int k = 0; k <= length; k++) {
                if (token == END && items > 0) return items;
                boolean good = items == 0 ? readOpening() : readItem();
                if (!good) break;
                items++;
            }
            return -10 - start;
        }

        private boolean readOpening() {
            if (!isWord("court")) return false;
            advance();
            return endItem();
        }

        private boolean readItem() {
            if (isWord("infant")) return readInfant();
            if (isWord("skill")) return readSkill();
            if (isWord("nurse")) return readNurse();
            return false;
        }

        private boolean readInfant() {
            if (draft.infants >= INFANTS) return false;
            advance();
            int kind = number(KINDS - 1);
            if (kind == NONE) return false;
            int months = number(MOST_MONTHS);
            if (months == NONE) return false;
            int home = number(PLACES - 1);
            if (home == NONE) return false;
            draft.add(kind, months, home);
            return endItem();
        }

        private boolean readSkill() {
            advance();
            int n = number(NURSES - 1);
            if (n == NONE) return false;
            int s = number(MOST_SKILL);
            if (s == NONE) return false;
            draft.setSkill(n, s);
            return endItem();
        }

        private boolean readNurse() {
            advance();
            int i = number(draft.infants - 1);
            if (i == NONE) return false;
            int n = number(NURSES - 1);
            if (n == NONE) return false;
            draft.nurse[i] = n;
            return endItem();
        }

        private boolean endItem() {
            if (token != MARK) return false;
            advance();
            return true;
        }

        /** The number at hand, which is left behind, or NONE, where the token stays at hand. */
        private int number(int most) {
            if (token != NUMBER || value > most) return NONE;
            int found = value;
            advance();
            return found;
        }

        private boolean isWord(String word) {
            if (token != WORD || behind - start != word.length()) return false;
            for (int k = 0; k < word.length(); k++) {
                if (bytes[start + k] != word.charAt(k)) return false;
            }
            return true;
        }

        private void advance() {
            takeRun(' ', ' ');
            start = behind;
            if (takeRun('a', 'z') > 0) {
                token = WORD;
            } else if (takeRun('0', '9') > 0) {
                token = behind - start <= 2 ? NUMBER : WRONG;
                // in a longer run the value may be anything: the token is wrong already
                value = bytes[behind - 1] - '0';
                if (behind - start > 1) value += 10 * (bytes[start] - '0');
            } else if (start >= length) {
                token = END;
            } else {
                token = bytes[start] == ';' ? MARK : WRONG;
                behind++;
            }
        }

        private int takeRun(char low, char high) {
            int first = behind;
            while (behind < length && bytes[behind] >= low && bytes[behind] <= high) behind++;
            return behind - first;
        }
    }
}
