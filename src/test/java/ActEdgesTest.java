/** Each sentence of the document that names an edge of ACTS, THE TRACE, THE IMAGE and the counts. */
public final class ActEdgesTest {
    public static void main(String[] args) {
        bodies();
        wrapping();
        noTrace();
        traceOfLatest();
        imageOfAll();
        imageOfFull();
        imageIsTakenAnew();
        undoWithoutImage();
        undoIsDoneAgain();
        undoOfShows();
        traceIsNoPart();
        counts();
        Edges.end();
    }

    private static void act(FieldBand x, int p, int act, int n, int want, int... bodies) {
        String what = "act(" + p + ", " + act + ", " + n + ")";
        Edges.due(what, x.act(p, act, n), want);
        Edges.due(what + ": count(5)", x.count(5), bodies.length);
        for (int i = 0; i < bodies.length; i++) Edges.due(what + ": trace(" + i + ")", x.trace(i), bodies[i]);
        Edges.due(what + ": behind the last body", x.trace(bodies.length), Edges.NONE);
    }

    /** PLAYER 0 of a KIND, with v. */
    private static FieldBand alone(int kind, int v) {
        return Edges.band("", kind, v, 0);
    }

    /** PLAYER 3 of a KIND, with v. */
    private static FieldBand fourth(int kind, int v) {
        FieldBand x = Edges.row("", 0, 3);
        x.player(kind, v, 63);
        return x;
    }

    private static void bodies() {
        Edges.says("the body of its KIND, or, if that has none, of the next KIND above that has one; super: so from the KIND above the body's on");
        act(fourth(0, 5), 3, 0, 10, 13, 1);
        act(fourth(0, 5), 3, 1, 10, 8, 2, 1);
        act(fourth(0, 5), 3, 2, 10, 16, 3, 2, 1);
        act(fourth(1, 5), 3, 0, 10, 33, 11, 1);
        act(fourth(1, 5), 3, 1, 10, 28, 2, 11, 1);
        act(fourth(1, 5), 3, 2, 10, 56, 3, 2, 11, 1);
        act(fourth(2, 5), 3, 0, 10, 13, 1);
        act(fourth(2, 5), 3, 1, 10, -8, 21, 2, 1);
        act(fourth(2, 5), 3, 2, 10, -16, 3, 21, 2, 1);
        act(fourth(3, 5), 3, 0, 10, 13, 1);
        act(fourth(3, 5), 3, 1, 10, 8, 2, 1);
        act(fourth(3, 5), 3, 2, 10, 23, 31, 3, 2, 1);
        act(fourth(4, 5), 3, 0, 10, 33, 11, 1);
        act(fourth(4, 5), 3, 1, 10, 28, 2, 11, 1);
        act(fourth(4, 5), 3, 2, 10, 2 * (30 - 5) + 9, 41, 3, 2, 11, 1, 11, 1);
        act(fourth(5, 5), 3, 0, 10, 13 ^ 3, 51, 1);
        act(fourth(5, 5), 3, 1, 10, 5 - 14, 21, 2, 51, 1);
        act(fourth(5, 5), 3, 2, 10, 2 * (5 - 14), 3, 21, 2, 51, 1);
        act(fourth(6, 5), 3, 0, 10, 13, 1);
        act(fourth(6, 5), 3, 1, 10, 13, 61, 2, 1);
        act(fourth(6, 5), 3, 2, 10, 26 ^ 7, 31, 3, 61, 2, 1);
    }

    private static void wrapping() {
        Edges.says("ACTS of a PLAYER with x (ints, wrapping)");
        act(fourth(0, 0), 3, 0, Edges.MAX - 3, Edges.MAX, 1);
        act(fourth(0, 0), 3, 0, Edges.MAX - 2, Edges.MIN, 1);
        act(fourth(0, 0), 3, 0, Edges.MAX, Edges.MIN + 2, 1);
        act(alone(0, 1), 0, 1, Edges.MIN + 1, Edges.MIN, 2, 1);
        act(alone(0, 1), 0, 1, Edges.MIN, Edges.MAX, 2, 1);
        act(alone(0, 9), 0, 1, Edges.MIN, Edges.MAX - 8, 2, 1);
        act(alone(0, 0), 0, 2, (1 << 30) - 1, Edges.MAX - 1, 3, 2, 1);
        act(alone(0, 0), 0, 2, 1 << 30, Edges.MIN, 3, 2, 1);
        act(alone(0, 0), 0, 2, Edges.MAX, -2, 3, 2, 1);
        act(alone(0, 0), 0, 2, Edges.MIN, 0, 3, 2, 1);
        act(alone(1, 0), 0, 0, 715827882, 2147483646, 11, 1);
        act(alone(1, 0), 0, 0, 715827883, -2147483647, 11, 1);
        act(alone(1, 0), 0, 0, 1431655766, 2, 11, 1);
        act(alone(1, 0), 0, 0, Edges.MIN, Edges.MIN, 11, 1);
        act(alone(2, 0), 0, 1, Edges.MIN + 1, Edges.MAX, 21, 2, 1);
        act(alone(2, 0), 0, 1, Edges.MIN, Edges.MIN, 21, 2, 1);
        act(alone(3, 0), 0, 2, 1 << 30, Edges.MIN + 7, 31, 3, 2, 1);
        act(alone(3, 0), 0, 2, -1, -2 ^ 7, 31, 3, 2, 1);
        // MIN - 1 is MAX; three times that is MAX - 2, twice that is -6; and goes(2) is 6
        act(alone(4, 0), 0, 2, Edges.MIN, 0, 41, 3, 2, 11, 1, 11, 1);
        act(fourth(5, 0), 3, 0, Edges.MAX - 2, Edges.MIN + 3, 51, 1);
        act(fourth(6, 9), 3, 1, Edges.MAX - 2, Edges.MIN, 61, 2, 1);
        act(fourth(6, 9), 3, 1, Edges.MIN, Edges.MIN + 3, 61, 2, 1);
        act(alone(0, 0), 0, 0, 0, 0, 1);
        act(alone(0, 0), 0, 0, -1, -1, 1);
    }

    private static void noTrace() {
        Edges.says("0, and no TRACE then: no such PLAYER, act");
        act(new FieldBand(), 0, 0, 5, 0);
        FieldBand x = Edges.row("", Edges.AHEAD, 10);
        for (int p : Edges.beside(9)) {
            for (int act = -1; act < 4; act++) {
                x.act(9, 2, 5);
                act(x, p, act, 5, 0);
                Edges.due("no body at all", x.trace(0), Edges.NONE);
            }
        }
        x = Edges.row("", Edges.AHEAD, 10);
        for (int act : Edges.beside(2)) {
            for (int p : new int[] {0, 9}) {
                x.act(9, 2, 5);
                act(x, p, act, 5, 0);
                Edges.due("no body at all", x.trace(0), Edges.NONE);
            }
        }
        Edges.due("act 2 of the tenth", x.act(9, 2, 1), 2 * 9 + 6 + 9);
        Edges.due("act 0 of the first", x.act(0, 0, 1), 3);
    }

    private static void traceOfLatest() {
        Edges.says("THE TRACE: the numbers of the bodies that ran in the latest act(), as they began; the first 20 are kept");
        FieldBand x = Edges.band("", Edges.AHEAD, 1, 0, Edges.LISTENING, 1, 1);
        for (int i = 0; i < 3; i++) Edges.due("no act() yet", x.trace(i), Edges.NONE);
        Edges.due("no act() yet", x.count(5), 0);
        // 7 bodies are the most that an act has
        act(x, 0, 2, 1, 4, 41, 3, 2, 11, 1, 11, 1);
        Edges.due("the last one", x.trace(6), 1);
        for (int i : new int[] {-1, 7, 19, 20, 21, Edges.MIN, Edges.MAX}) Edges.due("trace(" + i + ")", x.trace(i), Edges.NONE);
        act(x, 1, 0, 1, 2, 1);
        for (int i = 1; i < 8; i++) Edges.due("of the one before it", x.trace(i), Edges.NONE);
        Edges.due("asked again", x.trace(0), 1);
    }

    /** What of a field can be asked, before and behind what would change it. */
    private static String asked(FieldBand x) {
        StringBuilder text = new StringBuilder();
        for (int what : new int[] {0, 1, 2, 3, 4, 6}) text.append(x.count(what)).append(' ');
        for (int what = 0; what < 3; what++) text.append(x.told(what)).append(' ');
        for (int what = 0; what < 6; what++) text.append(Edges.ofAll(x, what)).append(' ');
        text.append(x.way(-2)).append(' ').append(x.hard(0)).append(' ').append(x.off(0)).append(' ').append(x.off(1));
        return text.toString();
    }

    private static FieldBand rich() {
        FieldBand x = Edges.band("speed 7;beat 6;step 5;late 2 p=0;loud 3 p=1", 4, 3, 9, 5, 8, 18);
        Edges.form(x, 1, 2, 3);
        Edges.film(x, 9, 63);
        x.drum(11);
        Edges.feed(x, "beat");
        return x;
    }

    private static void imageOfAll() {
        Edges.says("THE IMAGE: all that there is (but THE IMAGE and THE TRACE)");
        FieldBand x = rich();
        String before = asked(x);
        Edges.due("image()", x.image(), 2);
        Edges.due("the image changes nothing", asked(x), before);
        x.put(0, 10);
        x.put(1, 9);
        Edges.due("player", x.player(6, 1, 62), 2);
        Edges.form(x, 60, 61);
        Edges.film(x, 5, 6, 7);
        x.drum(0);
        Edges.due("show", Edges.show(x, " 9"), 1);
        Edges.due("show", Edges.show(x, "speed 1;step 1"), 2);
        Edges.feed(x, "xyz");
        Edges.due("undo()", x.undo(), 2);
        Edges.due("all is as it was", asked(x), before);
        // what can't be asked: THE TAPE's bytes, the FORM's DOTS
        Edges.due("the bytes of THE TAPE", Edges.show(x, " 8"), 1);
        Edges.due("the bytes of THE TAPE", x.told(1), 8);
        Edges.due("the DOTS of the FORM", x.form(3), Edges.STATE);
        Edges.due("the DOTS of the FORM", x.march(), 2);
        Edges.due("the DOTS of the FORM", Edges.ofAll(x, 2), "1 2");
        Edges.due("a third PLAYER", x.player(0, 0, 9), 2);
        Edges.due("the third DOT of the FORM", x.march(), 1);
        Edges.due("the third DOT of the FORM", x.of(2, 2), 3);
    }

    /** The tenth PLAYER, the tenth DOTS, the 120th byte are part of it, too. */
    private static void imageOfFull() {
        Edges.says("THE IMAGE: all that there is");
        FieldBand x = Edges.row("", Edges.EYED, 9);
        x.player(Edges.COUNTED, 7, 9);
        Edges.form(x, 20, 21, 22, 23, 24, 25, 26, 27, 28, 29);
        Edges.film(x, 20, 21, 22, 23, 24, 25, 26, 27, 28, 30);
        Edges.feed(x, "late 10 v<10" + "&v<9".repeat(26) + "&v<8");
        Edges.due("image()", x.image(), 10);
        for (int p = 0; p < 10; p++) x.put(p, 40 + p);
        Edges.form(x, 1, 2, 3, 4, 5, 6, 7, 8, 9, 10);
        Edges.film(x, 11, 12, 13, 14, 15, 16, 17, 18, 19, 29);
        Edges.due("THE TAPE is full", x.feed('x', 1), Edges.FULL);
        Edges.due("show()", x.show(), 0);
        Edges.feed(x, "beat 1;".repeat(17) + "x");
        Edges.due("count(4)", x.count(4), 120);
        Edges.due("undo()", x.undo(), 10);
        Edges.due("DOTS", Edges.ofAll(x, 2), "0 1 2 3 4 5 6 7 8 9");
        Edges.due("KINDS", Edges.ofAll(x, 0), "1 1 1 1 1 1 1 1 1 6");
        Edges.due("vs", Edges.ofAll(x, 1), "0 0 0 0 0 0 0 0 0 7");
        Edges.due("march()", x.march(), 10);
        Edges.due("the DOTS of the FORM", Edges.ofAll(x, 2), "20 21 22 23 24 25 26 27 28 29");
        Edges.due("the DOTS seen", x.off(0), 1);
        Edges.due("the tenth DOT seen", x.off(1), 9);
        Edges.due("the bytes of THE TAPE", x.show(), 0);
        Edges.due("SLIP", Edges.ofAll(x, 4), "10 10 10 10 10 10 10 10 10 10");
    }

    private static void imageIsTakenAnew() {
        Edges.says("THE IMAGE is taken: how many PLAYERS there are");
        FieldBand x = new FieldBand();
        for (int players = 0; players <= 10; players++) {
            Edges.due("image of " + players, x.image(), players);
            Edges.due("undo to " + players, x.undo(), players);
            if (players < 10) x.player(0, 0, players);
        }
        Edges.due("image of 10", x.image(), 10);
        Edges.due("an eleventh", x.player(0, 0, 63), Edges.FULL);
        Edges.due("undo()", x.undo(), 10);
        // the newest image is the one
        x = new FieldBand();
        x.image();
        x.drum(5);
        x.image();
        x.drum(6);
        x.undo();
        Edges.due("THE DRUM", x.count(6), 5);
    }

    private static void undoWithoutImage() {
        Edges.says("STATE: there is none");
        FieldBand x = rich();
        String before = asked(x);
        Edges.due("undo()", x.undo(), Edges.STATE);
        Edges.due("undo()", x.undo(), Edges.STATE);
        Edges.due("nothing changes", asked(x), before);
        Edges.due("of a new one", new FieldBand().undo(), Edges.STATE);
        // an image of nobody is one
        x = new FieldBand();
        Edges.due("image()", x.image(), 0);
        x.player(0, 0, 0);
        Edges.due("undo()", x.undo(), 0);
        Edges.due("count(0)", x.count(0), 0);
    }

    private static void undoIsDoneAgain() {
        Edges.says("All is as THE IMAGE: how many PLAYERS");
        FieldBand x = rich();
        String before = asked(x);
        x.image();
        for (int round = 0; round < 3; round++) {
            x.player(0, 0, 40 + round);
            x.put(0, 50 + round);
            x.drum(round);
            x.form(-1);
            x.seen(-1);
            Edges.due("show", Edges.show(x, " " + (round + 1)), 1);
            Edges.due("undo " + round, x.undo(), 2);
            Edges.due("all is as it was", asked(x), before);
            Edges.due("undo again", x.undo(), 2);
            Edges.due("all is as it was", asked(x), before);
        }
    }

    private static void undoOfShows() {
        Edges.says("All is as THE IMAGE: the SHOWS");
        FieldBand x = new FieldBand();
        x.image();
        Edges.due("show 0", Edges.show(x, "speed 1"), 0);
        x.undo();
        Edges.due("no SHOW", x.count(1), 0);
        Edges.due("no SHOW", x.told(0), 3);
        Edges.due("show 0 again", Edges.show(x, "speed 2"), 0);
        Edges.due("show 1", Edges.show(x, "speed 4"), 1);
        x.image();
        for (int i = 2; i < 5; i++) Edges.due("show " + i, Edges.show(x, "speed 9"), i);
        Edges.due("FULL", Edges.show(x, "speed 8"), Edges.FULL);
        x.undo();
        Edges.due("two SHOWS", x.count(1), 2);
        Edges.due("the second holds", x.told(0), 4);
        Edges.due("THE TAPE is empty", x.count(4), 0);
        Edges.due("with a FAULT", Edges.show(x, "speed 7;"), -18);
        Edges.due("the second holds", x.told(0), 4);
        Edges.due("show 2", Edges.show(x, "speed 6"), 2);
        x.undo();
        Edges.due("the second holds", x.told(0), 4);
    }

    private static void traceIsNoPart() {
        Edges.says("(but THE IMAGE and THE TRACE)");
        FieldBand x = Edges.band("", Edges.AHEAD, 1, 0);
        x.act(0, 0, 1);
        x.image();
        Edges.due("behind image()", x.trace(0), 11);
        Edges.due("behind image()", x.count(5), 2);
        x.act(0, 2, 1);
        x.undo();
        Edges.due("behind undo()", x.trace(0), 41);
        Edges.due("behind undo()", x.count(5), 7);
        x.act(5, 0, 1);
        x.undo();
        Edges.due("no TRACE", x.trace(0), Edges.NONE);
        Edges.due("no TRACE", x.count(5), 0);
        Edges.due("THE IMAGE stays", x.undo(), 1);
    }

    private static void counts() {
        Edges.says("0 PLAYERS, 1 SHOWS, 2 DOTS of the FORM, 3 DOTS seen, 4 bytes of THE TAPE, 5 bodies that ran in the latest act(), 6 THE DRUM's DOT. NONE");
        FieldBand x = rich();
        x.act(1, 2, 0);
        int[] want = {2, 1, 3, 2, 4, 5, 11};
        for (int what = 0; what < 7; what++) Edges.due("count(" + what + ")", x.count(what), want[what]);
        for (int what : Edges.beside(6)) {
            Edges.due("count(" + what + ")", x.count(what), Edges.NONE);
            Edges.due("count(" + what + ")", new FieldBand().count(what), Edges.NONE);
        }
    }
}
