import java.util.Random;

/** Runs of 512 calls of any kind, by fixed seeds: each answer is held against the model's, and no call ever throws. */
public final class ModelTest {
    private static final Check check = new Check();
    private static final int CALLS = 512;
    private static final int[] EDGES = {Integer.MIN_VALUE, -11, -3, -2, -1, 0, 1, 2, 3, 4, 5, 6, 7, 8, 9, 10, 11, 12, 13,
        14, 17, 18, 19, 20, 21, 22, 23, 24, 34, 35, 36, 59, 60, 61, 99, 127, 128, 999999, 1000000, Integer.MAX_VALUE};
    private static final String[] PIECES = {"court", "infant", "skill", "nurse", ";", " ", "0", "5", "6", "9", "10", "35",
        "36", "000", "99", "cour", "nurses", "-", "A", "\n", "" + (char) 0, "" + (char) 127, "z", "/", ":", "`", "{"};

    private final PramState real = new PramState();
    private final Model model = new Model();
    private final Random dice;
    private final String run;
    private int calls = 0;

    private ModelTest(int seed) {
        dice = new Random(seed);
        run = "run " + seed;
    }

    public static void main(String[] args) {
        for (int seed = 0; seed < 600; seed++) new ModelTest(seed).anyRun(seed);
        for (int seed = 0; seed < 300; seed++) new ModelTest(seed).texts();
        check.end();
    }

    /** One in four runs asks with edges often; the others mostly with what is told, so that their courts grow full. */
    private void anyRun(int seed) {
        int wild = seed % 4 == 0 ? 3 : 25;
        if (seed % 5 == 0) fill();
        while (calls < CALLS - 160) anyCall(dice.nextInt(37), wild);
        askAll();
    }

    private void fill() {
        for (int i = 0; i < 6; i++) same(1, dice.nextInt(6), dice.nextInt(19), dice.nextInt(6), 0, 0);
        for (int n = 0; n < 6; n++) same(2, n, dice.nextInt(10), 0, 0, 0);
    }

    private void texts() {
        fill();
        while (calls < CALLS - 160) {
            same(4, 0, 0, 0, 0, 0);
            type(dice.nextBoolean() ? goodText() : spoiled(goodText()));
            same(5, 0, 0, 0, 0, 0);
            same(34, 0, 0, 0, 0, 0);
        }
    }

    private void anyCall(int call, int wild) {
        if (call == 0 && dice.nextInt(6) != 0) return;
        if (call == 3 && dice.nextInt(12) == 0) {
            if (dice.nextInt(3) > 0) same(4, 0, 0, 0, 0, 0);
            String text = goodText();
            type(dice.nextBoolean() ? text : spoiled(text));
            same(5, 0, 0, 0, 0, 0);
            return;
        }
        if (call == 4 && dice.nextInt(4) != 0) return;
        // months go by slowly now and then, or everybody would soon be retired
        int a = call == 6 && dice.nextInt(3) > 0 ? 1 + dice.nextInt(2) : any(wild, call == 13 ? 61 : call == 28 ? 1000000 : 6);
        int b = any(wild, call == 1 ? 20 : call == 20 ? 36 : call == 11 ? 24 : call == 28 ? 61 : call == 27 ? 11 : call == 2 ? 10 : 6);
        int c = any(wild, call == 20 ? 24 : call == 11 ? 2 : 6);
        if (call == 20 && dice.nextBoolean()) ownNote();
        else same(call, a, b, c, any(wild, 2), any(wild, 7));
    }

    /** A note that the infant's own kind fits, if its nurse has no skill: so what it may be narrows by and by. */
    private void ownNote() {
        calls += 4;
        int infants = real.count(0);
        if (infants == 0) return;
        int i = dice.nextInt(infants);
        int h = dice.nextInt(24);
        same(20, i, Math.min(35, real.of(i, 1)), h, real.hour(i, h, 0), real.hour(i, h, 1));
    }

    private int any(int wild, int below) {
        return dice.nextInt(wild) == 0 ? EDGES[dice.nextInt(EDGES.length)] : dice.nextInt(below);
    }

    private String goodText() {
        StringBuilder text = new StringBuilder(blanks() + "court" + blanks() + ";");
        int infants = 0;
        for (int k = dice.nextInt(12); k > 0; k--) {
            int which = dice.nextInt(3);
            if (which == 0 && infants < 6) {
                text.append("infant " + dice.nextInt(6) + " " + dice.nextInt(36) + " 0" + dice.nextInt(6) + ";");
                infants++;
            } else if (which == 1 && infants > 0) {
                text.append(blanks() + "nurse" + dice.nextInt(infants) + " " + dice.nextInt(6) + blanks() + ";");
            } else {
                text.append("skill " + dice.nextInt(6) + blanks() + " " + dice.nextInt(10) + ";");
            }
        }
        return text.append(blanks()).toString();
    }

    private String blanks() {
        return " ".repeat(Math.max(0, dice.nextInt(6) - 3));
    }

    /** Cut short, or with a piece put in or in the place of some bytes. */
    private String spoiled(String text) {
        int at = dice.nextInt(text.length() + 1);
        int kind = dice.nextInt(4);
        if (kind == 0) return text.substring(0, at);
        String piece = PIECES[dice.nextInt(PIECES.length)];
        int to = kind == 1 ? at : Math.min(text.length(), at + 1 + dice.nextInt(3));
        return text.substring(0, at) + piece + text.substring(to);
    }

    private void type(String text) {
        for (int k = 0; k < text.length() && calls < CALLS - 100; k++) same(3, text.charAt(k), 0, 0, 0, 0);
    }

    /** Everything that can be asked at a run's end, what may be undone too. */
    private void askAll() {
        for (int what = 0; what <= 6; what++) same(33, what, 0, 0, 0, 0);
        for (int what = 0; what <= 2; what++) same(32, what, 0, 0, 0, 0);
        for (int i = 0; i < 6; i++) same(15, i, 0, 0, 0, 0);
        for (int i = 0; i < 6; i++) same(15, i, 1, 0, 0, 0);
        for (int i = 0; i < 6; i++) same(18, i, 0, 0, 0, 0);
        for (int i = 0; i < 6; i++) same(24, i, 0, 0, 0, 0);
        same(18, -1, 0, 0, 0, 0);
        for (int k = 0; k < 9; k++) undoAndDigest();
        for (int image = 0; image < 2; image++) {
            same(31, image, 0, 0, 0, 0);
            for (int k = 0; k < 9; k++) undoAndDigest();
        }
    }

    private void undoAndDigest() {
        same(9, 0, 0, 0, 0, 0);
        same(34, 0, 0, 0, 0, 0);
    }

    private void same(int call, int a, int b, int c, int d, int e) {
        calls++;
        long want = ofModel(call, a, b, c, d, e);
        check.due(run + ", call " + calls + ": no. " + call + " (" + a + ", " + b + ", " + c + ", " + d + ", " + e + ")",
            ofReal(call, a, b, c, d, e), want);
    }

    private long ofReal(int call, int a, int b, int c, int d, int e) {
        switch (call) {
            case 0: return real.court();
            case 1: return real.infant(a, b, c);
            case 2: return real.skill(a, b);
            case 3: return real.type(a);
            case 4: return real.clear();
            case 5: return real.read();
            case 6: return real.month(a);
            case 7: return real.nurse(a, b);
            case 8: return real.retire(a);
            case 9: return real.undo();
            case 10: return real.of(a, b);
            case 11: return real.hour(a, b, c);
            case 12: return real.day(a);
            case 13: return real.reign(a);
            case 14: return real.falls();
            case 15: return real.line(a, b);
            case 16: return real.meet(a, b);
            case 17: return real.congress(a);
            case 18: return real.nurses(a);
            case 19: return real.visit();
            case 20: return real.note(a, b, c, d, e);
            case 21: return real.heard(a, d);
            case 22: return real.forget(a);
            case 23: return real.is(a);
            case 24: return real.listen(a);
            case 25: return real.which();
            case 26: return real.powers(b);
            case 27: return real.walks(a, b);
            case 28: return real.dynasties(a, b);
            case 29: return real.part(d);
            case 30: return real.image(d);
            case 31: return real.from(a);
            case 32: return real.status(a);
            case 33: return real.count(a);
            case 34: return real.digest();
            case 35: return real.congress(d);
            default: return real.nurses(-1);
        }
    }

    private long ofModel(int call, int a, int b, int c, int d, int e) {
        switch (call) {
            case 0: return model.court();
            case 1: return model.infant(a, b, c);
            case 2: return model.skill(a, b);
            case 3: return model.type(a);
            case 4: return model.clear();
            case 5: return model.read();
            case 6: return model.month(a);
            case 7: return model.nurse(a, b);
            case 8: return model.retire(a);
            case 9: return model.undo();
            case 10: return model.of(a, b);
            case 11: return model.hour(a, b, c);
            case 12: return model.day(a);
            case 13: return model.reign(a);
            case 14: return model.falls();
            case 15: return model.line(a, b);
            case 16: return model.meet(a, b);
            case 17: return model.congress(a);
            case 18: return model.nurses(a);
            case 19: return model.visit();
            case 20: return model.note(a, b, c, d, e);
            case 21: return model.heard(a, d);
            case 22: return model.forget(a);
            case 23: return model.is(a);
            case 24: return model.listen(a);
            case 25: return model.which();
            case 26: return model.powers(b);
            case 27: return model.walks(a, b);
            case 28: return model.dynasties(a, b);
            case 29: return model.part(d);
            case 30: return model.image(d);
            case 31: return model.from(a);
            case 32: return model.status(a);
            case 33: return model.count(a);
            case 34: return model.digest();
            case 35: return model.congress(d);
            default: return model.nurses(-1);
        }
    }
}
