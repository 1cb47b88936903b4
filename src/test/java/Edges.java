/** What the tests of edges share: the sentence of the document that is tested, and fields made in one line. */
final class Edges {
    static final int MIN = Integer.MIN_VALUE;
    static final int MAX = Integer.MAX_VALUE;
    static final int NONE = FieldBand.NONE, BAD = FieldBand.BAD, STATE = FieldBand.STATE, FULL = FieldBand.FULL;
    static final int LISTENING = 0, EYED = 1, BACKWARD = 2, FORWARD = 3, AHEAD = 4, ECHOED = 5, COUNTED = 6;

    private static int wrong = 0;
    private static String sentence = "";

    private Edges() { }

    /** What follows tests these words of the document. */
    static void says(String words) {
        sentence = words;
    }

    static void due(String what, int got, int want) {
        if (got != want) {
            wrong++;
            System.out.println("\"" + sentence + "\": " + what + " answered " + got + ", due is " + want);
        }
    }

    /** The answers of one call for several arguments, as one text. */
    static void due(String what, String got, String want) {
        if (!got.equals(want)) {
            wrong++;
            System.out.println("\"" + sentence + "\": " + what + " answered " + got + ", due is " + want);
        }
    }

    static void end() {
        if (wrong != 0) System.exit(1);
    }

    /** The numbers beside 0 .. most, and the farthest ones. */
    static int[] beside(int most) {
        return new int[] {-1, most + 1, MIN, MAX};
    }

    static int feed(FieldBand x, String text) {
        int size = x.count(4);
        for (int i = 0; i < text.length(); i += 8) {
            int n = Math.min(8, text.length() - i);
            long w = 0;
            for (int k = 0; k < n; k++) w = w << 8 | text.charAt(i + k);
            size = x.feed(w, n);
        }
        return size;
    }

    static int show(FieldBand x, String text) {
        feed(x, text);
        return x.show();
    }

    /** A SHOW, if the text is not empty, and PLAYERS as triples of KIND, v, DOT. */
    static FieldBand band(String text, int... triples) {
        FieldBand x = new FieldBand();
        if (!text.isEmpty()) due("show of '" + text + "'", show(x, text), 0);
        for (int i = 0; i < triples.length; i += 3) {
            due("player " + i / 3, x.player(triples[i], triples[i + 1], triples[i + 2]), i / 3);
        }
        return x;
    }

    /** So many PLAYERS of a KIND with v 0 on DOTS 0, 1, 2 .. */
    static FieldBand row(String text, int kind, int players) {
        int[] triples = new int[3 * players];
        for (int p = 0; p < players; p++) {
            triples[3 * p] = kind;
            triples[3 * p + 2] = p;
        }
        return band(text, triples);
    }

    static FieldBand form(FieldBand x, int... dots) {
        due("form(-1)", x.form(-1), 0);
        for (int i = 0; i < dots.length; i++) due("form(" + dots[i] + ")", x.form(dots[i]), i + 1);
        return x;
    }

    static FieldBand film(FieldBand x, int... dots) {
        due("seen(-1)", x.seen(-1), 0);
        for (int i = 0; i < dots.length; i++) due("seen(" + dots[i] + ")", x.seen(dots[i]), i + 1);
        return x;
    }

    /** One what of all PLAYERS, with blanks between. */
    static String ofAll(FieldBand x, int what) {
        StringBuilder text = new StringBuilder();
        for (int p = 0; p < x.count(0); p++) text.append(p == 0 ? "" : " ").append(x.of(p, what));
        return text.toString();
    }
}
