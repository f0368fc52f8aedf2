import java.math.BigInteger;
import java.util.ArrayDeque;
import java.util.ArrayList;
import java.util.Deque;
import java.util.HashMap;
import java.util.HashSet;
import java.util.List;
import java.util.Map;
import java.util.Set;
import java.util.TreeSet;
import java.util.regex.Matcher;
import java.util.regex.Pattern;

/**
 * The document once more, in the slowest and plainest way: months really go by, prams go step by step, every way of
 * giving nurses is tried. It shares nothing with the class, so that ModelTest can hold the one against the other.
 */
final class Model {
    private static final Set<Integer> PLAIN_SLEEP = Set.of(0, 1, 2, 3, 4, 5, 6, 12, 13, 19, 20, 21, 22, 23);

    private static final class Infant {
        int kind;
        int months;
        int home;
        int nurse;
        boolean retired;

        Infant copy() {
            Infant other = new Infant();
            other.kind = kind;
            other.months = months;
            other.home = home;
            other.nurse = nurse;
            other.retired = retired;
            return other;
        }
    }

    private static final class State {
        List<Infant> infants = new ArrayList<>();
        int[] skills = new int[6];
        int month = 0;
        List<int[]> notes = new ArrayList<>();
        List<int[]> heard = new ArrayList<>();
        Deque<State> undo = new ArrayDeque<>();

        State copy() {
            State other = new State();
            for (Infant i : infants) other.infants.add(i.copy());
            other.skills = skills.clone();
            other.month = month;
            other.notes.addAll(notes);
            other.heard.addAll(heard);
            other.undo.addAll(undo);
            return other;
        }
    }

    private State now = new State();
    private final State[] images = new State[2];
    private final StringBuilder text = new StringBuilder();
    private BigInteger above = BigInteger.ZERO;
    private BigInteger below = BigInteger.ONE;
    private final int[] refused = new int[3];

    private int bad() {
        refused[0]++;
        return -2;
    }

    private int no() {
        refused[1]++;
        return -3;
    }

    private int full() {
        refused[2]++;
        return -4;
    }

    private static boolean in(int x, int low, int high) {
        return low <= x && x <= high;
    }

    private boolean there(int i) {
        return in(i, 0, now.infants.size() - 1);
    }

    // ---- what the kinds are

    private static boolean sleeps(int kind, int h) {
        switch (kind) {
            case 2: return PLAIN_SLEEP.contains(h) && h != 2 && h != 3;
            case 4: return h == 14 || PLAIN_SLEEP.contains(h) && h != 12;
            case 5: return h == 17 || PLAIN_SLEEP.contains(h);
            default: return PLAIN_SLEEP.contains(h);
        }
    }

    private static int bareCries(int kind, int m, int h) {
        if (sleeps(kind, h)) return 0;
        int plain = m < 6 ? 3 : 2;
        switch (kind) {
            case 1: return plain * 2;
            case 2: return in(m, 6, 11) ? plain + 3 : plain;
            case 5: return plain * 2 - 1;
            default: return plain;
        }
    }

    private static int walksWith(int kind) {
        return kind == 3 ? 11 : kind == 4 ? 18 : 14;
    }

    private int cries(Infant i, int h, int nurse) {
        int less = (now.skills[nurse] - now.skills[nurse] % 2) / 2;
        int left = bareCries(i.kind, i.months, h) - less;
        return left < 0 ? 0 : left;
    }

    private int criesInDay(Infant i, int nurse) {
        int sum = 0;
        for (int h = 0; h <= 23; h++) sum += cries(i, h, nurse);
        return sum;
    }

    private static int reigns(List<Infant> infants) {
        int who = -1;
        int most = -1;
        for (int i = 0; i < infants.size(); i++) {
            Infant one = infants.get(i);
            if (!one.retired && one.months > most) {
                most = one.months;
                who = i;
            }
        }
        return who;
    }

    private static void aMonthGoesBy(List<Infant> infants) {
        for (Infant i : infants) {
            if (!i.retired) i.months++;
        }
        for (Infant i : infants) {
            if (i.months >= walksWith(i.kind) && !i.retired) i.retired = true;
        }
    }

    private int[] reignsAhead() {
        State then = now.copy();
        int[] who = new int[61];
        for (int m = 0; m <= 60; m++) {
            who[m] = reigns(then.infants);
            aMonthGoesBy(then.infants);
        }
        return who;
    }

    // ---- a court

    int court() {
        int were = now.infants.size();
        now = new State();
        return were;
    }

    int infant(int kind, int months, int home) {
        if (!in(kind, 0, 5) || !in(months, 0, 35) || !in(home, 0, 5)) return bad();
        if (now.infants.size() == 6) return full();
        return born(now, kind, months, home);
    }

    private static int born(State state, int kind, int months, int home) {
        Infant one = new Infant();
        one.kind = kind;
        one.months = months;
        one.home = home;
        one.nurse = state.infants.size();
        state.infants.add(one);
        state.undo.clear();
        return one.nurse;
    }

    int skill(int n, int s) {
        if (!in(n, 0, 5) || !in(s, 0, 9)) return bad();
        int was = now.skills[n];
        now.skills[n] = s;
        now.undo.clear();
        return was;
    }

    int type(int c) {
        if (!in(c, 0, 127)) return bad();
        if (text.length() == 150) return full();
        text.append((char) c);
        return text.length();
    }

    int clear() {
        int had = text.length();
        text.setLength(0);
        return had;
    }

    /** By what may stand next: a pattern for the tokens, and for each place in an item the tokens that are good there. */
    int read() {
        List<String> tokens = new ArrayList<>();
        List<Integer> places = new ArrayList<>();
        Matcher m = Pattern.compile("[a-z]+|[0-9]+|[^ ]", Pattern.DOTALL).matcher(text);
        while (m.find()) {
            tokens.add(m.group());
            places.add(m.start());
        }
        State told = new State();
        List<String> item = new ArrayList<>();
        int items = 0;
        for (int k = 0; k < tokens.size(); k++) {
            if (!good(tokens.get(k), item, items, told)) return -10 - places.get(k);
            item.add(tokens.get(k));
            if (tokens.get(k).equals(";")) {
                carryOut(item, told);
                item.clear();
                items++;
            }
        }
        if (items == 0 || !item.isEmpty()) return -10 - text.length();
        now = told;
        return items;
    }

    private static boolean good(String token, List<String> item, int items, State told) {
        if (items == 0) return token.equals(item.isEmpty() ? "court" : ";");
        if (item.isEmpty()) {
            return token.equals("skill") || token.equals("nurse") || token.equals("infant") && told.infants.size() < 6;
        }
        int[] mosts;
        switch (item.get(0)) {
            case "infant": mosts = new int[] {5, 35, 5}; break;
            case "skill": mosts = new int[] {5, 9}; break;
            default: mosts = new int[] {told.infants.size() - 1, 5}; break;
        }
        if (item.size() - 1 == mosts.length) return token.equals(";");
        return token.matches("[0-9][0-9]?") && Integer.parseInt(token) <= mosts[item.size() - 1];
    }

    private static void carryOut(List<String> item, State told) {
        int[] n = item.stream().filter(t -> t.matches("[0-9]+")).mapToInt(Integer::parseInt).toArray();
        switch (item.get(0)) {
            case "infant": born(told, n[0], n[1], n[2]); break;
            case "skill": told.skills[n[0]] = n[1]; break;
            case "nurse": told.infants.get(n[0]).nurse = n[1]; break;
            default: break;
        }
    }

    // ---- months

    private void mayBeUndone() {
        State was = now.copy();
        was.undo.clear();
        now.undo.addLast(was);
        if (now.undo.size() > 8) now.undo.removeFirst();
    }

    int month(int n) {
        if (!in(n, 1, 60)) return bad();
        mayBeUndone();
        for (int k = 0; k < n; k++) {
            aMonthGoesBy(now.infants);
            now.month = Math.min(now.month + 1, 999);
        }
        return reigns(now.infants);
    }

    int nurse(int i, int n) {
        if (!there(i) || !in(n, 0, 5)) return bad();
        mayBeUndone();
        int was = now.infants.get(i).nurse;
        now.infants.get(i).nurse = n;
        return was;
    }

    int retire(int i) {
        if (!there(i)) return bad();
        if (now.infants.get(i).retired) return no();
        mayBeUndone();
        now.infants.get(i).retired = true;
        return count(1);
    }

    int undo() {
        if (now.undo.isEmpty()) return no();
        State was = now.undo.removeLast();
        for (int i = 0; i < now.infants.size(); i++) now.infants.set(i, was.infants.get(i).copy());
        now.month = was.month;
        return now.month;
    }

    int of(int i, int what) {
        if (!there(i) || !in(what, 0, 5)) return bad();
        Infant one = now.infants.get(i);
        int[] all = {one.kind, one.months, one.home, one.nurse, one.retired ? 1 : 0, walksWith(one.kind)};
        return all[what];
    }

    // ---- who reigns

    int hour(int i, int h, int what) {
        if (!there(i) || !in(h, 0, 23) || !in(what, 0, 1)) return bad();
        Infant one = now.infants.get(i);
        if (what == 0) return sleeps(one.kind, h) ? 1 : 0;
        return cries(one, h, one.nurse);
    }

    int day(int i) {
        if (!there(i)) return bad();
        return criesInDay(now.infants.get(i), now.infants.get(i).nurse);
    }

    int reign(int m) {
        if (!in(m, 0, 60)) return bad();
        return reignsAhead()[m];
    }

    int falls() {
        int[] who = reignsAhead();
        if (who[0] == -1) return -1;
        for (int m = 1; m <= 60; m++) {
            if (who[m] != who[0]) return m;
        }
        return -1;
    }

    int line(int i, int what) {
        if (i < -1 || !in(what, 0, 1)) {
            bad();
            return -10;
        }
        List<Integer> heirs = new ArrayList<>();
        Map<Integer, Integer> months = new HashMap<>();
        for (int who : reignsAhead()) {
            if (who == -1) continue;
            if (!heirs.contains(who)) heirs.add(who);
            months.merge(who, 1, Integer::sum);
        }
        if (i == -1) return heirs.size();
        if (i >= heirs.size()) return -5;
        return what == 0 ? heirs.get(i) : months.get(heirs.get(i));
    }

    /** The places to which one can have come by an hour, a step to either side in each one since hour 7. */
    private static Set<Integer> reached(Infant one, int h) {
        Set<Integer> places = new HashSet<>(Set.of(one.home));
        for (int k = 7; k < h; k++) {
            for (int p : List.copyOf(places)) {
                places.add((p + 1) % 6);
                places.add((p + 5) % 6);
            }
        }
        return places;
    }

    private static int gathered(List<Infant> ones, int h, int place) {
        int sum = 0;
        for (Infant one : ones) {
            if (!one.retired && !sleeps(one.kind, h) && reached(one, h).contains(place)) sum++;
        }
        return sum;
    }

    int meet(int a, int b) {
        if (!there(a) || !there(b) || a == b) return bad();
        List<Infant> two = List.of(now.infants.get(a), now.infants.get(b));
        if (two.get(0).retired || two.get(1).retired) return no();
        for (int when = 70; when <= 235; when++) {
            if (when % 10 <= 5 && gathered(two, when / 10, when % 10) == 2) return when;
        }
        return -1;
    }

    int congress(int what) {
        if (!in(what, 0, 1)) return bad();
        int most = 0;
        int best = -1;
        for (int when = 70; when <= 235; when++) {
            int sum = when % 10 <= 5 ? gathered(now.infants, when / 10, when % 10) : 0;
            if (sum > most) {
                most = sum;
                best = when;
            }
        }
        return most == 0 ? -1 : what == 0 ? best : most;
    }

    int nurses(int i) {
        if (i != -1 && !there(i)) {
            bad();
            return -10;
        }
        List<Integer> best = new ArrayList<>();
        int least = tryWays(new ArrayList<>(), 0, Integer.MAX_VALUE, best);
        return i == -1 ? least : best.get(i);
    }

    private int tryWays(List<Integer> way, int sum, int least, List<Integer> best) {
        int i = way.size();
        if (i == now.infants.size()) {
            if (sum >= least) return least;
            best.clear();
            best.addAll(way);
            return sum;
        }
        Infant one = now.infants.get(i);
        int found = least;
        for (int n = one.retired ? -1 : 0; n <= (one.retired ? -1 : 5); n++) {
            if (n >= 0 && way.contains(n)) continue;
            way.add(n);
            found = tryWays(way, sum + (n < 0 ? 0 : criesInDay(one, n)), found, best);
            way.remove(i);
        }
        return found;
    }

    int visit() {
        int who = reigns(now.infants);
        if (who == -1) return -1;
        Infant one = now.infants.get(who);
        TreeSet<Integer> ways = new TreeSet<>();
        for (int h = 0; h <= 23; h++) {
            if (!sleeps(one.kind, h)) ways.add(100 * cries(one, h, one.nurse) + h);
        }
        return ways.isEmpty() ? -1 : ways.first() % 100;
    }

    // ---- what they are

    int note(int i, int m, int h, int slept, int x) {
        if (!there(i) || !in(m, 0, 35) || !in(h, 0, 23) || !in(slept, 0, 1) || !in(x, 0, 20)) return bad();
        if (now.notes.size() == 6) return full();
        now.notes.add(new int[] {i, m, h, slept, x});
        return now.notes.size();
    }

    int heard(int i, int awake) {
        if (!there(i) || !in(awake, 0, 1)) return bad();
        if (now.heard.size() == 6) return full();
        now.heard.add(new int[] {i, awake});
        return now.heard.size();
    }

    int forget(int what) {
        if (!in(what, 0, 1)) return bad();
        List<int[]> all = what == 0 ? now.notes : now.heard;
        int were = all.size();
        all.clear();
        return were;
    }

    int is(int i) {
        if (!there(i)) return bad();
        int kinds = 0;
        for (int kind = 0; kind <= 5; kind++) {
            boolean so = true;
            for (int[] n : now.notes) {
                if (n[0] != i) continue;
                so &= sleeps(kind, n[2]) == (n[3] == 1) && bareCries(kind, n[1], n[2]) == n[4];
            }
            if (so) kinds += 1 << kind;
        }
        return kinds;
    }

    int listen(int i) {
        if (!there(i)) return bad();
        int kinds = is(i);
        if (kinds == 0) return -1;
        int best = -1;
        int fewest = 99;
        for (int h = 0; h <= 23; h++) {
            Map<String, Integer> groups = new HashMap<>();
            int most = 0;
            for (int kind = 0; kind <= 5; kind++) {
                if ((kinds & 1 << kind) == 0) continue;
                String like = sleeps(kind, h) + " " + bareCries(kind, now.infants.get(i).months, h);
                most = Math.max(most, groups.merge(like, 1, Integer::sum));
            }
            if (most < fewest) {
                fewest = most;
                best = h;
            }
        }
        return best;
    }

    int which() {
        int hours = 0;
        for (int h = 0; h <= 23; h++) {
            boolean so = true;
            for (int[] n : now.heard) so &= sleeps(now.infants.get(n[0]).kind, h) == (n[1] == 0);
            if (so) hours += 1 << h;
        }
        return hours;
    }

    int powers(int h) {
        if (!in(h, 0, 23)) return bad();
        int who = reigns(now.infants);
        if (who == -1) return 15;
        Infant one = now.infants.get(who);
        int pairs = 0;
        for (int a = 0; a <= 1; a++) {
            for (int b = 0; b <= 1; b++) {
                boolean rests = gets(one, h, a, b) >= gets(one, h, 1 - a, b) && gets(one, h, b, a) >= gets(one, h, 1 - b, a);
                if (rests) pairs += 1 << (a + 2 * b);
            }
        }
        return pairs;
    }

    private int gets(Infant one, int h, int mine, int yours) {
        if (sleeps(one.kind, h)) return 0;
        int cried = cries(one, h, one.nurse) + 2 * mine + 2 * yours;
        return mine == 1 ? 4 - cried : 3 - (cried - cried % 2) / 2;
    }

    int walks(int m, int c) {
        if (!in(m, 0, 9) || !in(c, 0, 10)) return bad();
        int[] who = reignsAhead();
        if (who[0] == -1) return no();
        BigInteger up = who[m] == who[0] ? BigInteger.valueOf(10 - c).pow(m) : BigInteger.ZERO;
        BigInteger down = BigInteger.TEN.pow(m);
        BigInteger common = up.gcd(down);
        above = up.divide(common);
        below = down.divide(common);
        return 1;
    }

    int dynasties(int seed, int n) {
        if (!in(seed, 0, 999999) || !in(n, 0, 60)) return bad();
        BigInteger x = BigInteger.valueOf(seed);
        int sum = 0;
        for (int k = 0; k < n; k++) {
            State then = now.copy();
            for (Infant one : then.infants) {
                x = x.multiply(BigInteger.valueOf(1103515245)).add(BigInteger.valueOf(12345)).mod(BigInteger.TWO.pow(31));
                one.months = x.divide(BigInteger.valueOf(65536)).mod(BigInteger.valueOf(36)).intValue();
                one.retired = false;
            }
            aMonthGoesBy(then.infants);
            sum += reigns(then.infants) + 1;
        }
        return sum;
    }

    // ---- what there is

    long part(int what) {
        if (!in(what, 0, 1)) return bad();
        return (what == 0 ? above : below).longValueExact();
    }

    int image(int i) {
        if (!in(i, 0, 1)) return bad();
        images[i] = now.copy();
        return 1;
    }

    int from(int i) {
        if (!in(i, 0, 1)) return bad();
        if (images[i] == null) return no();
        now = images[i].copy();
        return 1;
    }

    int status(int what) {
        if (in(what, 0, 2)) return refused[what];
        bad();
        return -1;
    }

    int count(int what) {
        if (!in(what, 0, 6)) return bad();
        int retired = (int) now.infants.stream().filter(i -> i.retired).count();
        int[] all = {now.infants.size(), retired, now.month, now.notes.size(), now.heard.size(), now.undo.size(), text.length()};
        return all[what];
    }

    long digest() {
        List<Long> values = new ArrayList<>();
        for (int what = 0; what <= 6; what++) values.add((long) count(what));
        for (int s : now.skills) values.add((long) s);
        for (Infant i : now.infants) {
            for (int v : new int[] {i.kind, i.months, i.home, i.nurse, i.retired ? 1 : 0}) values.add((long) v);
        }
        for (int[] n : now.notes) {
            for (int v : n) values.add((long) v);
        }
        for (int[] n : now.heard) {
            for (int v : n) values.add((long) v);
        }
        values.add(above.longValueExact());
        values.add(below.longValueExact());
        BigInteger h = BigInteger.valueOf(1423);
        for (long v : values) h = h.multiply(BigInteger.valueOf(31)).add(BigInteger.valueOf(v));
        return h.longValue();
    }
}
