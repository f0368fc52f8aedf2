/** Courts in which the edges are tried; each call makes a new one, and takes 250 calls at most of the 512. */
final class Courts {
    private Courts() {
    }

    static PramState empty() {
        return new PramState();
    }

    /** Two infants, the first one older; all there is has been begun and nothing is full. */
    static PramState two() {
        PramState x = Check.of(4, 9, 1, 2, 6, 3);
        x.skill(2, 7);
        x.note(0, 9, 12, 0, 2);
        x.heard(1, 1);
        x.month(1);
        x.image(0);
        x.nurse(1, 2);
        x.walks(2, 1);
        Check.type(x, "court;infant 1 2 3;skill 4 5;nurse 0 5;");
        return x;
    }

    /** Six infants, of which the fourth one is retired; six notes, six heard, eight to undo, both images, 150 bytes. */
    static PramState full() {
        PramState x = new PramState();
        for (int i = 0; i < 6; i++) x.infant(i, 2 * i, 5 - i);
        for (int n = 0; n < 6; n++) x.skill(n, n + 1);
        for (int n = 0; n < 6; n++) x.note(n, n + 1, n + 2, n % 2, n + 3);
        for (int n = 0; n < 6; n++) x.heard(n, 1 - n % 2);
        x.month(1);
        x.image(0);
        for (int k = 0; k < 6; k++) x.nurse(k, (k + 2) % 6);
        x.image(1);
        x.retire(3);
        x.walks(2, 7);
        Check.type(x, fullText());
        return x;
    }

    /** 13 items in 150 bytes. */
    static String fullText() {
        StringBuilder text = new StringBuilder("court;");
        for (int i = 0; i < 6; i++) text.append("infant 5 35 5;");
        for (int n = 0; n < 5; n++) text.append("skill ").append(n).append(" 9;");
        return text.append("nurse 5 0;").toString();
    }
}
