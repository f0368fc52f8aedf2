import java.util.Random;

/** Many courts by a fixed seed: what is foretold is held against what comes, and no call ever throws. */
public final class SweepTest {
    private static final Check check = new Check();
    private static final int[] EDGES = {Integer.MIN_VALUE, -11, -3, -2, -1, 0, 1, 2, 3, 4, 5, 6, 7, 9, 10, 11, 12,
        14, 20, 21, 23, 24, 35, 36, 59, 60, 61, 99, 127, 128, 999999, 1000000, Integer.MAX_VALUE};

    public static void main(String[] args) {
        for (int seed = 0; seed < 300; seed++) {
            Random dice = new Random(seed);
            PramState x = anyCourt(dice);
            foretold(x, "court " + seed);
            walkedPrams(x, "court " + seed);
            triedNurses(x, "court " + seed);
        }
        for (int seed = 0; seed < 200; seed++) anyCalls(new Random(seed));
        check.end();
    }

    private static PramState anyCourt(Random dice) {
        PramState x = new PramState();
        int infants = dice.nextInt(7);
        for (int i = 0; i < infants; i++) {
            x.infant(dice.nextInt(6), dice.nextInt(dice.nextBoolean() ? 36 : 14), dice.nextInt(6));
        }
        for (int n = 0; n < 6; n++) x.skill(n, dice.nextInt(10));
        for (int i = 0; i < infants; i++) {
            if (dice.nextInt(4) == 0) x.retire(i);
            if (dice.nextInt(3) == 0) x.nurse(i, dice.nextInt(6));
        }
        return x;
    }

    /** reign, falls and line against months that really go by. */
    private static void foretold(PramState x, String court) {
        int[] who = new int[61];
        x.image(0);
        for (int m = 0; m <= 60; m++) {
            if (m > 0) x.month(1);
            who[m] = oldest(x);
        }
        x.from(0);
        int falls = PramState.NONE;
        for (int m = 60; m >= 0; m--) {
            check.due(court + ": reign(" + m + ")", x.reign(m), who[m]);
            if (who[0] != PramState.NONE && who[m] != who[0]) falls = m;
        }
        check.due(court + ": falls()", x.falls(), falls);
        int heirs = 0;
        for (int m = 0; m <= 60; m++) {
            boolean comesFirst = who[m] != PramState.NONE;
            int months = 0;
            for (int k = 0; k <= 60; k++) {
                if (who[k] != who[m]) continue;
                months++;
                if (k < m) comesFirst = false;
            }
            if (!comesFirst) continue;
            check.due(court + ": line(" + heirs + ", 0)", x.line(heirs, 0), who[m]);
            check.due(court + ": line(" + heirs + ", 1)", x.line(heirs, 1), months);
            heirs++;
        }
        check.due(court + ": line(-1, 0)", x.line(-1, 0), heirs);
        check.due(court + ": line(" + heirs + ", 0)", x.line(heirs, 0), -5);
    }

    private static int oldest(PramState x) {
        int who = PramState.NONE;
        for (int i = x.count(0) - 1; i >= 0; i--) {
            if (x.of(i, 4) == 0 && (who == PramState.NONE || x.of(i, 1) >= x.of(who, 1))) who = i;
        }
        return who;
    }

    /** meet and congress against prams that go a step to either side, or stay, in each hour. */
    private static void walkedPrams(PramState x, String court) {
        int infants = x.count(0);
        boolean[][] at = new boolean[infants][6];
        for (int i = 0; i < infants; i++) at[i][x.of(i, 2)] = true;
        int[][] met = new int[infants][infants];
        int most = 0;
        int where = PramState.NONE;
        for (int h = 7; h < 24; h++) {
            for (int p = 0; p < 6; p++) {
                int there = 0;
                for (int i = 0; i < infants; i++) {
                    if (!at[i][p] || x.hour(i, h, 0) == 1 || x.of(i, 4) == 1) continue;
                    there++;
                    for (int j = 0; j < infants; j++) {
                        if (at[j][p] && x.hour(j, h, 0) == 0 && met[i][j] == 0) met[i][j] = 10 * h + p;
                    }
                }
                if (there > most) {
                    most = there;
                    where = 10 * h + p;
                }
            }
            for (int i = 0; i < infants; i++) at[i] = aStepOn(at[i]);
        }
        for (int i = 0; i < infants; i++) {
            for (int j = 0; j < infants; j++) {
                if (i == j) continue;
                boolean retired = x.of(i, 4) == 1 || x.of(j, 4) == 1;
                check.due(court + ": meet(" + i + ", " + j + ")", x.meet(i, j), retired ? PramState.NO : met[i][j]);
            }
        }
        check.due(court + ": congress(0)", x.congress(0), where);
        check.due(court + ": congress(1)", x.congress(1), most == 0 ? PramState.NONE : most);
    }

    private static boolean[] aStepOn(boolean[] at) {
        boolean[] then = new boolean[6];
        for (int p = 0; p < 6; p++) then[p] = at[p] || at[(p + 1) % 6] || at[(p + 5) % 6];
        return then;
    }

    /** nurses against every way, tried out by nurse and day. */
    private static void triedNurses(PramState x, String court) {
        int infants = x.count(0);
        int[][] cries = new int[infants][6];
        for (int i = 0; i < infants; i++) {
            int own = x.of(i, 3);
            for (int n = 0; n < 6; n++) {
                x.nurse(i, n);
                cries[i][n] = x.day(i);
            }
            x.nurse(i, own);
        }
        int[] best = new int[infants];
        int least = tryAll(x, cries, 0, new int[infants], best, new int[] {0, Integer.MAX_VALUE});
        check.due(court + ": nurses(-1)", x.nurses(-1), least);
        for (int i = 0; i < infants; i++) check.due(court + ": nurses(" + i + ")", x.nurses(i), best[i]);
    }

    private static int tryAll(PramState x, int[][] cries, int i, int[] way, int[] best, int[] sumAndLeast) {
        if (i == way.length) {
            if (sumAndLeast[0] < sumAndLeast[1]) {
                sumAndLeast[1] = sumAndLeast[0];
                System.arraycopy(way, 0, best, 0, way.length);
            }
            return sumAndLeast[1];
        }
        if (x.of(i, 4) == 1) {
            way[i] = PramState.NONE;
            return tryAll(x, cries, i + 1, way, best, sumAndLeast);
        }
        for (int n = 0; n < 6; n++) {
            boolean free = true;
            for (int j = 0; j < i; j++) free &= way[j] != n;
            if (!free) continue;
            way[i] = n;
            sumAndLeast[0] += cries[i][n];
            tryAll(x, cries, i + 1, way, best, sumAndLeast);
            sumAndLeast[0] -= cries[i][n];
        }
        return sumAndLeast[1];
    }

    /** 512 calls of any kind with any numbers: none throws, and one that asks or is refused leaves the digest as it is. */
    private static void anyCalls(Random dice) {
        PramState x = anyCourt(dice);
        for (int k = 0; k < 512; k++) {
            long ahead = x.digest();
            int refused = x.status(0) + x.status(1) + x.status(2);
            int call = dice.nextInt(36);
            anyCall(x, call, dice);
            boolean wasRefused = x.status(0) + x.status(1) + x.status(2) != refused;
            boolean asks = call >= 10 && call <= 19 || call >= 23 && call <= 26 || call >= 28 && call <= 29 || call >= 32;
            if (asks || wasRefused) check.due("call " + call + ": digest()", x.digest(), ahead);
            boolean inBounds = x.count(0) <= 6 && x.count(3) <= 6 && x.count(4) <= 6 && x.count(5) <= 8
                && x.count(6) <= 150 && x.count(2) <= 999 && x.part(1) > 0;
            check.due("call " + call + ": all in bounds", inBounds ? 1 : 0, 1);
        }
    }

    private static void anyCall(PramState x, int call, Random dice) {
        int a = any(dice);
        int b = any(dice);
        int c = any(dice);
        switch (call) {
            case 0: if (dice.nextInt(8) == 0) x.court(); break;
            case 1: x.infant(a, b, c); break;
            case 2: x.skill(a, b); break;
            case 3: if (dice.nextInt(8) == 0) Check.type(x, "court;infant 4 7 2;skill 1 5;nurse 0 1;"); else x.type(a); break;
            case 4: x.clear(); break;
            case 5: x.read(); break;
            case 6: x.month(a); break;
            case 7: x.nurse(a, b); break;
            case 8: x.retire(a); break;
            case 9: x.undo(); break;
            case 10: x.of(a, b); break;
            case 11: x.hour(a, b, c); break;
            case 12: x.day(a); break;
            case 13: x.reign(a); break;
            case 14: x.falls(); break;
            case 15: x.line(a, b); break;
            case 16: x.meet(a, b); break;
            case 17: x.congress(a); break;
            case 18: x.nurses(a); break;
            case 19: x.visit(); break;
            case 20: x.note(a, b, c, any(dice), any(dice)); break;
            case 21: x.heard(a, b); break;
            case 22: x.forget(a); break;
            case 23: x.is(a); break;
            case 24: x.listen(a); break;
            case 25: x.which(); break;
            case 26: x.powers(a); break;
            case 27: x.walks(a, b); break;
            case 28: x.dynasties(a, b); break;
            case 29: x.part(a); break;
            case 30: x.image(a); break;
            case 31: x.from(a); break;
            case 32: x.status(a); break;
            case 33: x.count(a); break;
            case 34: x.digest(); break;
            default: x.reign(b); break;
        }
    }

    private static int any(Random dice) {
        return dice.nextInt(3) == 0 ? EDGES[dice.nextInt(EDGES.length)] : dice.nextInt(7);
    }
}
