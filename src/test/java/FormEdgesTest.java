/** Each sentence of the document that names an edge of FORMS, WAYS, MARCHES, of what is SEEN, WHOM and LEFT OUT. */
public final class FormEdgesTest {
    public static void main(String[] args) {
        formAtMost();
        formIsEmptied();
        wayOfFirstDots();
        wayOfSeveral();
        wayRefused();
        wayOfSix();
        counts();
        meet();
        meetRefused();
        hard();
        march();
        marchRefused();
        seenAtMost();
        off();
        worst();
        whom();
        whomAllElseAsItIs();
        whomRefused();
        out();
        outOfSeveral();
        Edges.end();
    }

    private static void formAtMost() {
        Edges.says("A FORM: DOTS told by hand (10 at most, none twice). NONE; STATE: it is there; FULL: 10");
        FieldBand x = Edges.band("", 0, 0, 0, 0, 0, 1);
        int[] dots = {0, 63, 60, 1, 7, 56, 32, 33, 34};
        for (int i = 0; i < dots.length; i++) {
            Edges.due("count(2)", x.count(2), i);
            Edges.due("form(" + dots[i] + ")", x.form(dots[i]), i + 1);
            for (int k = 0; k <= i; k++) Edges.due("twice", x.form(dots[k]), Edges.STATE);
        }
        Edges.due("the tenth", x.form(2), 10);
        Edges.due("an eleventh", x.form(3), Edges.FULL);
        Edges.due("an eleventh again", x.form(62), Edges.FULL);
        for (int dot : dots) Edges.due("STATE ahead of FULL", x.form(dot), Edges.STATE);
        Edges.due("STATE ahead of FULL", x.form(2), Edges.STATE);
        for (int dot : new int[] {-2, 64, Edges.MIN, Edges.MAX}) Edges.due("form(" + dot + ")", x.form(dot), Edges.NONE);
        Edges.due("count(2)", x.count(2), 10);
    }

    private static void formIsEmptied() {
        Edges.says("(-1: it is empty then, 0)");
        FieldBand x = new FieldBand();
        Edges.due("of an empty one", x.form(-1), 0);
        Edges.due("count(2)", x.count(2), 0);
        for (int i = 0; i < 10; i++) Edges.due("form(" + i + ")", x.form(i), i + 1);
        Edges.due("of a full one", x.form(-1), 0);
        Edges.due("count(2)", x.count(2), 0);
        for (int i = 0; i < 10; i++) Edges.due("form(" + (9 - i) + ")", x.form(9 - i), i + 1);
        Edges.due("what is SEEN stays", x.seen(5), 1);
        Edges.due("of a full one", x.form(-1), 0);
        Edges.due("what is SEEN stays", x.count(3), 1);
    }

    private static void way(String what, FieldBand x, int greatest, int sum, int... places) {
        Edges.due(what + ": way(-1)", x.way(-1), greatest);
        Edges.due(what + ": way(-2)", x.way(-2), sum);
        for (int p = 0; p < places.length; p++) Edges.due(what + ": way(" + p + ")", x.way(p), places[p]);
    }

    private static void wayOfFirstDots() {
        Edges.says("by which each PLAYER goes to one of the first DOTS of the FORM, as many as there are PLAYERS, each to its own one");
        way("nobody", new FieldBand(), 0, 0);
        way("nobody", Edges.form(new FieldBand(), 5, 6), 0, 0);
        way("one stays", Edges.form(Edges.band("", 0, 0, 9), 9), 0, 0, 0);
        way("a nearer DOT is no first one", Edges.form(Edges.band("", 0, 0, 0), 63, 0), 7, 7, 0);
        way("a nearer DOT is no first one", Edges.form(Edges.band("", 0, 0, 0, 0, 0, 1), 5, 1, 0), 4, 5, 1, 0);
        // 0 is the nearest for both
        way("each to its own one", Edges.form(Edges.band("", 0, 0, 1, 0, 0, 8), 0, 63), 7, 8, 0, 1);
        way("all ten DOTS", Edges.form(Edges.band("", 0, 0, 0, 0, 0, 7), 7, 0, 1, 2, 3, 4, 5, 6, 8, 9), 0, 0, 1, 0);
    }

    private static void wayOfSeveral() {
        Edges.says("the greatest FAR that one goes is least; of several the sum of FAR is least; of several the first as a row");
        // 2 and 2, though 3 and 0 are less together and the first row
        way("the greatest one", Edges.form(Edges.band("", 0, 0, 0, 0, 0, 2), 19, 2), 2, 4, 1, 0);
        // 3 and 0, though 3 and 3 are the first row
        way("the sum", Edges.form(Edges.band("", 0, 0, 0, 0, 0, 3), 3, 27), 3, 3, 1, 0);
        // each is 3 from each
        way("the first row", Edges.form(Edges.band("", 0, 0, 0, 0, 0, 24), 27, 3), 3, 6, 0, 1);
        way("the first row", Edges.form(Edges.band("", 0, 0, 0, 0, 0, 24), 3, 27), 3, 6, 0, 1);
        // each is 7 from each
        FieldBand x = Edges.band("", 0, 0, 0, 0, 0, 8, 0, 0, 16);
        way("the first of six rows", Edges.form(x, 7, 15, 23), 7, 21, 0, 1, 2);
        // 0 1 2, 0 2 1 and 1 0 2 are 16
        x = Edges.band("", 0, 0, 56, 0, 0, 7, 0, 0, 23);
        way("the first of three rows", Edges.form(x, 0, 63, 39), 7, 16, 0, 1, 2);
        // 1 0 2 and 1 2 0 are 14, 0 1 2 is 21
        x = Edges.band("", 0, 0, 63, 0, 0, 56, 0, 0, 57);
        way("the first of two rows", Edges.form(x, 0, 63, 7), 7, 14, 1, 0, 2);
        x = Edges.band("", 0, 0, 0, 0, 0, 1, 0, 0, 2);
        way("the last row", Edges.form(x, 2, 1, 0), 0, 0, 2, 1, 0);
    }

    private static void wayRefused() {
        Edges.says("(-5: the FORM has fewer DOTS than there are PLAYERS; else -9: there are more than 6 PLAYERS)");
        for (int players = 1; players <= 10; players++) {
            FieldBand x = Edges.row("", 0, players);
            for (int dots = 0; dots <= 10; dots++) {
                int want = dots < players ? -5 : players > 6 ? -9 : 0;
                String what = players + " PLAYERS and " + dots + " DOTS";
                Edges.due(what + ": way(-1)", x.way(-1), want);
                Edges.due(what + ": way(-2)", x.way(-2), want);
                Edges.due(what + ": way of the last one", x.way(players - 1), want == 0 ? players - 1 : want);
                Edges.due(what + ": counts()", x.counts(), want);
                Edges.due(what + ": NONE ahead of it", x.way(players), Edges.NONE);
                Edges.due(what + ": NONE ahead of it", x.way(-3), Edges.NONE);
                if (dots < 10) x.form(dots);
            }
        }
        Edges.says("NONE: k");
        for (int players = 0; players <= 7; players++) {
            FieldBand x = Edges.form(Edges.row("", 0, players), 0, 1, 2, 3, 4, 5, 6);
            for (int k : new int[] {-3, players, 10, Edges.MIN, Edges.MAX}) Edges.due("way(" + k + ")", x.way(k), Edges.NONE);
        }
    }

    private static void wayOfSix() {
        Edges.says("else -9: there are more than 6 PLAYERS");
        FieldBand x = Edges.form(Edges.row("", 0, 6), 5, 4, 3, 2, 1, 0);
        way("six in turn", x, 0, 0, 5, 4, 3, 2, 1, 0);
        // all of row 0 go to row 7: any way is 7 for each
        x = Edges.form(Edges.row("", 0, 6), 61, 60, 59, 58, 57, 56);
        way("six alike", x, 7, 42, 0, 1, 2, 3, 4, 5);
        x = Edges.form(Edges.row("", 0, 6), 8, 9, 10, 11, 12, 5);
        way("the last one stays", x, 1, 5, 0, 1, 2, 3, 4, 5);
        x = Edges.form(Edges.row("", 0, 6), 0, 2, 1, 4, 3, 6);
        way("six by turns", x, 1, 1, 0, 2, 1, 4, 3, 5);
    }

    private static void counts() {
        Edges.says("COUNTS: that greatest FAR by STEP (rounded up)");
        int[][] rows = {{0, 7, 7}, {1, 7, 7}, {2, 7, 4}, {3, 7, 3}, {4, 7, 2}, {6, 7, 2}, {7, 7, 1}, {8, 7, 1}, {99, 7, 1},
            {2, 6, 3}, {2, 5, 3}, {2, 1, 1}, {2, 0, 0}, {99, 0, 0}, {0, 0, 0}, {3, 6, 2}, {3, 4, 2}, {3, 3, 1}};
        for (int[] one : rows) {
            FieldBand x = Edges.form(Edges.band("step " + one[0], 0, 0, 0), one[1]);
            Edges.due("FAR " + one[1] + " by " + one[0], x.counts(), one[2]);
        }
        Edges.due("without STEP", Edges.form(Edges.band("", 0, 0, 0), 7).counts(), 4);
        Edges.due("nobody", new FieldBand().counts(), 0);
        Edges.due("nobody", Edges.form(Edges.band("step 0"), 7).counts(), 0);
        // the greatest FAR of the WAY, not AS TOLD
        Edges.due("by the WAY", Edges.form(Edges.band("step 1", 0, 0, 0, 0, 0, 7), 7, 0).counts(), 0);
    }

    private static void meet() {
        Edges.says("MEET: pairs of PLAYERS that, AS TOLD, are in one point half way: the rows of both their DOTS, together, are alike, and the columns, too");
        Edges.due("nobody", new FieldBand().meet(), 0);
        Edges.due("one", Edges.form(Edges.band("", 0, 0, 0), 63).meet(), 0);
        Edges.due("two change DOTS", Edges.form(Edges.band("", 0, 0, 0, 0, 0, 63), 63, 0).meet(), 1);
        Edges.due("two stay", Edges.form(Edges.band("", 0, 0, 0, 0, 0, 63), 0, 63).meet(), 0);
        Edges.due("one stays, one goes through it", Edges.form(Edges.band("", 0, 0, 9, 0, 0, 0), 9, 18).meet(), 1);
        Edges.due("rows alike alone", Edges.form(Edges.band("", 0, 0, 0, 0, 0, 1), 18, 19).meet(), 0);
        Edges.due("columns alike alone", Edges.form(Edges.band("", 0, 0, 0, 0, 0, 8), 18, 26).meet(), 0);
        Edges.due("half a column apart", Edges.form(Edges.band("", 0, 0, 9, 0, 0, 1), 9, 18).meet(), 0);
        Edges.due("half a row apart", Edges.form(Edges.band("", 0, 0, 9, 0, 0, 8), 9, 18).meet(), 0);
        Edges.due("in the middle of four DOTS", Edges.form(Edges.band("", 0, 0, 0, 0, 0, 1), 9, 8).meet(), 1);
        int[] dots = new int[10];
        for (int p = 0; p < 10; p++) dots[p] = 63 - p;
        Edges.due("all ten in the middle", Edges.form(Edges.row("", 0, 10), dots).meet(), 45);
        Edges.due("five, AS TOLD", Edges.form(Edges.row("", 0, 5), dots).meet(), 10);
        // the WAY would be another one
        Edges.due("AS TOLD", Edges.form(Edges.band("", 0, 0, 0, 0, 0, 1), 1, 0).meet(), 1);
    }

    private static void meetRefused() {
        Edges.says("-5: the FORM has fewer DOTS than there are PLAYERS");
        for (int players = 1; players <= 10; players++) {
            FieldBand x = Edges.row("", 0, players);
            for (int dots = 0; dots <= 10; dots++) {
                boolean tooFew = dots < players;
                String what = players + " PLAYERS and " + dots + " DOTS";
                Edges.due(what + ": meet()", x.meet(), tooFew ? -5 : 0);
                Edges.due(what + ": hard(0)", x.hard(0), tooFew ? -5 : (1 << players) - 1);
                Edges.due(what + ": hard(1)", x.hard(1), tooFew ? -5 : 0);
                Edges.due(what + ": hard(2)", x.hard(2), Edges.NONE);
                Edges.due(what + ": march()", x.march(), tooFew ? Edges.STATE : 0);
                if (dots < 10) x.form(dots);
            }
        }
    }

    private static void hard() {
        Edges.says("HARD: PLAYERS whose FAR, AS TOLD, is greatest, as bits; how far that is");
        Edges.due("nobody", new FieldBand().hard(0), 0);
        Edges.due("nobody", new FieldBand().hard(1), 0);
        Edges.due("nobody, a FORM", Edges.form(new FieldBand(), 5).hard(0), 0);
        FieldBand x = Edges.form(Edges.row("", 0, 3), 0, 1, 2);
        Edges.due("nobody goes", x.hard(0), 7);
        Edges.due("nobody goes", x.hard(1), 0);
        x = Edges.form(Edges.row("", 0, 3), 16, 9, 18);
        Edges.due("two of three", x.hard(0), 5);
        Edges.due("two of three", x.hard(1), 2);
        x = Edges.form(Edges.row("", 0, 10), 56, 57, 58, 59, 60, 61, 62, 63, 15, 17);
        Edges.due("nine of ten", x.hard(0), 511);
        Edges.due("nine of ten", x.hard(1), 7);
        x = Edges.form(Edges.row("", 0, 10), 0, 1, 2, 3, 4, 5, 6, 7, 8, 17);
        Edges.due("the tenth", x.hard(0), 512);
        Edges.due("the tenth", x.hard(1), 1);
        Edges.due("AS TOLD", Edges.form(Edges.row("", 0, 2), 1, 0).hard(1), 1);
        Edges.says("what 0 as bits, 1 how far; -5 likewise. NONE");
        for (int what : Edges.beside(1)) {
            Edges.due("hard(" + what + ")", x.hard(what), Edges.NONE);
            Edges.due("hard(" + what + ") of nobody", new FieldBand().hard(what), Edges.NONE);
            Edges.due("hard(" + what + ") ahead of -5", Edges.row("", 0, 1).hard(what), Edges.NONE);
        }
    }

    private static void march() {
        Edges.says("MARCH: all PLAYERS go AS TOLD, at once: how many go to another DOT");
        Edges.due("nobody", new FieldBand().march(), 0);
        FieldBand x = Edges.form(Edges.row("", 0, 10), 1, 2, 3, 4, 5, 6, 7, 8, 9, 0);
        Edges.due("each to the next one's DOT", x.march(), 10);
        Edges.due("DOTS", Edges.ofAll(x, 2), "1 2 3 4 5 6 7 8 9 0");
        Edges.due("again", x.march(), 0);
        Edges.due("DOTS", Edges.ofAll(x, 2), "1 2 3 4 5 6 7 8 9 0");
        Edges.due("the FORM stays", x.count(2), 10);
        Edges.due("the FORM stays", x.form(0), Edges.STATE);
        x = Edges.form(Edges.row("", 0, 3), 0, 2, 1, 9);
        Edges.due("one stays", x.march(), 2);
        Edges.due("DOTS", Edges.ofAll(x, 2), "0 2 1");
        Edges.due("nobody went to the fourth DOT", x.player(0, 0, 9), 3);
        Edges.due("THE DRUM stays", x.count(6), 60);
        x = Edges.form(Edges.row("", 0, 1), 60);
        Edges.due("to THE DRUM's DOT", x.march(), 1);
        Edges.due("DOTS", Edges.ofAll(x, 2), "60");
        Edges.due("where it was is free", x.player(0, 0, 0), 1);
    }

    private static void marchRefused() {
        Edges.says("STATE: the FORM has too few DOTS");
        FieldBand x = Edges.form(Edges.row("", 0, 3), 10, 11);
        Edges.due("march()", x.march(), Edges.STATE);
        Edges.due("DOTS", Edges.ofAll(x, 2), "0 1 2");
        Edges.due("form(12)", x.form(12), 3);
        Edges.due("march()", x.march(), 3);
        Edges.due("DOTS", Edges.ofAll(x, 2), "10 11 12");
        Edges.due("without a FORM", Edges.row("", 0, 1).march(), Edges.STATE);
        Edges.due("nine DOTS for ten", Edges.form(Edges.row("", 0, 10), 10, 11, 12, 13, 14, 15, 16, 17, 18).march(), Edges.STATE);
    }

    private static void seenAtMost() {
        Edges.says("SEEN from above, told by hand: a row of DOTS (10 at most). NONE; FULL: 10");
        FieldBand x = new FieldBand();
        int[] dots = {0, 0, 63, 63, 60, 5, 0, 63, 1};
        for (int i = 0; i < dots.length; i++) {
            Edges.due("count(3)", x.count(3), i);
            Edges.due("seen(" + dots[i] + ")", x.seen(dots[i]), i + 1);
        }
        Edges.due("the tenth", x.seen(0), 10);
        Edges.due("an eleventh", x.seen(0), Edges.FULL);
        Edges.due("an eleventh", x.seen(63), Edges.FULL);
        for (int dot : new int[] {-2, 64, Edges.MIN, Edges.MAX}) Edges.due("seen(" + dot + ")", x.seen(dot), Edges.NONE);
        Edges.due("count(3)", x.count(3), 10);
        Edges.says("(-1: it is empty then, 0)");
        Edges.due("of a full one", x.seen(-1), 0);
        Edges.due("count(3)", x.count(3), 0);
        Edges.due("of an empty one", x.seen(-1), 0);
        Edges.due("the first again", x.seen(7), 1);
        Edges.due("the FORM stays", x.form(5), 1);
        Edges.due("of one", x.seen(-1), 0);
        Edges.due("the FORM stays", x.count(2), 1);
    }

    private static void off() {
        Edges.says("OFF: how many PLAYERS, for whom one is told, are on another DOT");
        Edges.due("nobody", new FieldBand().off(0), 0);
        Edges.due("nobody, one told", Edges.film(new FieldBand(), 5).off(0), 0);
        Edges.due("none told", Edges.row("", 0, 10).off(0), 0);
        FieldBand x = Edges.film(Edges.row("", 0, 3), 0);
        Edges.due("one told", x.off(0), 0);
        x.seen(3);
        Edges.due("two told", x.off(0), 1);
        x.seen(3);
        Edges.due("three told", x.off(0), 2);
        x.seen(63);
        Edges.due("four told", x.off(0), 2);
        x.player(0, 0, 62);
        Edges.due("a fourth PLAYER", x.off(0), 3);
        int[] dots = {10, 11, 12, 13, 14, 15, 16, 17, 18, 19};
        Edges.due("all ten", Edges.film(Edges.row("", 0, 10), dots).off(0), 10);
        Edges.due("all ten stand right", Edges.film(Edges.row("", 0, 10), 0, 1, 2, 3, 4, 5, 6, 7, 8, 9).off(0), 0);
        Edges.says("OFF (what 0), WORST (1; -5). NONE");
        for (int what : Edges.beside(1)) {
            Edges.due("off(" + what + ")", x.off(what), Edges.NONE);
            Edges.due("off(" + what + ") of nobody", new FieldBand().off(what), Edges.NONE);
        }
    }

    private static void worst() {
        Edges.says("WORST: the one whose DOT is the FARthest from the one told (of several the least; -5: nobody is OFF)");
        Edges.due("nobody", new FieldBand().off(1), -5);
        Edges.due("nobody, one told", Edges.film(new FieldBand(), 5).off(1), -5);
        Edges.due("none told", Edges.row("", 0, 3).off(1), -5);
        Edges.due("all stand right", Edges.film(Edges.row("", 0, 3), 0, 1, 2).off(1), -5);
        Edges.due("told for nobody", Edges.film(Edges.row("", 0, 1), 0, 63).off(1), -5);
        Edges.due("the first", Edges.film(Edges.row("", 0, 3), 8, 1, 2).off(1), 0);
        Edges.due("the last", Edges.film(Edges.row("", 0, 3), 0, 1, 3).off(1), 2);
        Edges.due("the first of two", Edges.film(Edges.row("", 0, 3), 0, 9, 10).off(1), 1);
        Edges.due("the first of three", Edges.film(Edges.row("", 0, 3), 8, 9, 10).off(1), 0);
        Edges.due("the farther one", Edges.film(Edges.row("", 0, 3), 8, 17, 10).off(1), 1);
        Edges.due("the farther one", Edges.film(Edges.row("", 0, 3), 8, 9, 18).off(1), 2);
        Edges.due("the farther one first", Edges.film(Edges.row("", 0, 3), 63, 9, 18).off(1), 0);
        Edges.due("the tenth", Edges.film(Edges.row("", 0, 10), 0, 1, 2, 3, 4, 5, 6, 7, 8, 10).off(1), 9);
    }

    private static void whom() {
        Edges.says("WHOM: KINDS with which a PLAYER would be HEARD at a SEAT in a told hundredth (0 .. 999), as bits");
        FieldBand x = Edges.band("speed 0", 4, 9, 0);
        Edges.due("0: all but AHEAD", x.whom(0, 0, 0), 127 - 16);
        Edges.due("1: none", x.whom(0, 0, 1), 0);
        // 990 by SLIP, and 9, 12 at SEATS 3, 4: EYED, FORWARD, AHEAD, COUNTED
        String late = "late 99 p<9;".repeat(9) + "late 99 p<9";
        x = Edges.band(late, 0, 0, 0);
        Edges.due("999", x.whom(0, 3, 999), 2 | 8 | 16 | 64);
        Edges.due("998", x.whom(0, 3, 998), 0);
        Edges.due("as LISTENING beyond 999", x.whom(0, 0, 993), 2 | 8 | 16 | 64);
        // each KIND by itself: on 12 with v 5 and number 2; LISTENING 6, BACKWARD 20 + 1, FORWARD 40 + 1
        x = Edges.band("speed 1;late 20 p=0;late 40 p=1", 1, 0, 20, 1, 0, 4, 0, 5, 12);
        int[] heard = {6, 0, 21, 41, -5, 22, 10};
        for (int kind = 0; kind < 7; kind++) {
            int at = heard[kind] + 2;
            if (at >= 0) Edges.due("KIND " + kind, x.whom(2, 4, at), 1 << kind);
        }
        Edges.due("its KIND stays", Edges.ofAll(x, 0), "1 1 0");
        Edges.due("PLAYS stays", Edges.ofAll(x, 5), "20 40 6");
        // below 0 there is no hundredth to tell
        Edges.due("AHEAD is HEARD below 0", Edges.band("speed 0", 4, 1, 0).whom(0, 0, 0), 127 - 16);
    }

    private static void whomAllElseAsItIs() {
        Edges.says("all else as it is");
        // the one behind is FORWARD: it listens to THE DRUM, 6 away, if the one on 4 is BACKWARD or under it
        FieldBand x = Edges.band("speed 1", 1, 0, 4, 3, 0, 12);
        Edges.due("BACKWARD or ECHOED by one that is FORWARD", x.whom(0, 4, 7 + 1), 1 | 4 | 32);
        // the one before is BACKWARD: FORWARD is as LISTENING then
        x = Edges.band("speed 1", 2, 0, 4, 1, 0, 12);
        Edges.due("FORWARD behind one that is BACKWARD", x.whom(1, 4, 6 + 2), 1 | 4 | 8);
        Edges.due("EYED, AHEAD and COUNTED", x.whom(1, 4, 2), 2 | 16 | 64);
        Edges.due("ECHOED", x.whom(1, 4, 6 + 1 + 2), 32);
        // the KIND that it would be of counts for k
        x = Edges.band("speed 0;late 9 k=3;late 20 k>4", 0, 0, 0);
        Edges.due("k=3", x.whom(0, 0, 9), 8);
        Edges.due("k>4", x.whom(0, 0, 20), 32 | 64);
        Edges.due("no SLIP", x.whom(0, 0, 0), 1 | 2 | 4 | 16);
    }

    private static void whomRefused() {
        Edges.says("NONE; BAD: hundredth");
        FieldBand x = Edges.row("", 0, 10);
        for (int h : Edges.beside(999)) {
            Edges.due("whom(0, 0, " + h + ")", x.whom(0, 0, h), Edges.BAD);
            Edges.due("whom(9, 7, " + h + ")", x.whom(9, 7, h), Edges.BAD);
            Edges.due("whom(10, 0, " + h + ")", x.whom(10, 0, h), Edges.NONE);
            Edges.due("whom(0, 8, " + h + ")", x.whom(0, 8, h), Edges.NONE);
            Edges.due("whom of nobody", new FieldBand().whom(0, 0, h), Edges.NONE);
        }
        for (int p : Edges.beside(9)) Edges.due("whom(" + p + ", 0, 0)", x.whom(p, 0, 0), Edges.NONE);
        for (int seat : Edges.beside(7)) Edges.due("whom(0, " + seat + ", 0)", x.whom(0, seat, 0), Edges.NONE);
        Edges.due("the last of all", x.whom(9, 7, 999), 0);
    }

    private static void out() {
        Edges.says("(of several the least; -5: there are fewer than 2)");
        Edges.due("nobody", new FieldBand().out(), -5);
        Edges.due("one", Edges.row("", 0, 1).out(), -5);
        for (int players = 2; players <= 10; players++) {
            Edges.due(players + " alike", Edges.row("speed 0", 0, players).out(), 0);
            for (int late = 0; late < players; late++) {
                int want = players == 2 ? 0 : late;
                Edges.due("the late one of " + players, Edges.row("speed 0;late 9 p=" + late, 1, players).out(), want);
            }
        }
        Edges.due("the first of two that are late", Edges.row("speed 0;late 9 p=1;late 9 p=3", 1, 5).out(), 0);
    }

    private static void outOfSeveral() {
        Edges.says("LEFT OUT: the PLAYER without whom (all others with their numbers) the sum of SPREADS at all SEATS were least");
        // HEARD 0, 6, 18: 12 without 0, 18 without 1, 6 without 2; if the COUNTED one were 1, it would be HEARD at 9
        FieldBand x = Edges.band("speed 0;late 6 v=5", 1, 0, 0, 1, 5, 1, 6, 9, 2);
        Edges.due("COUNTED keeps its number", x.out(), 2);
        x = Edges.band("speed 0;late 9 p=2;late 2 p=1", 1, 0, 0, 1, 0, 1, 1, 0, 2);
        Edges.due("p stays", x.out(), 2);
        // without 1, to whom 0 listens, 0 is as LISTENING
        x = Edges.band("speed 0;late 50 p=1", 2, 0, 0, 1, 0, 8, 1, 0, 1, 1, 0, 2);
        Edges.due("whom one listened to", x.out(), 1);
        // without 1, that is EYED, 0 listens to 2 behind it, that is late
        x = Edges.band("speed 0;late 50 p=2", 2, 0, 0, 1, 0, 8, 1, 0, 16);
        Edges.due("then to the next one", x.out(), 1);
        // without 1, that is BACKWARD, 0 no more is as LISTENING
        x = Edges.band("speed 1", 3, 0, 12, 2, 0, 4, 1, 0, 11, 1, 0, 13);
        Edges.due("whom one was as LISTENING for", x.out(), 1);
        Edges.due("nothing changes", Edges.ofAll(x, 2), "12 4 11 13");
        Edges.due("nothing changes", x.count(0), 4);
        // at SEAT 0 it were least without 1, at all SEATS together without 2
        x = Edges.band("speed 1", 1, 0, 7, 1, 0, 0, 1, 0, 56);
        Edges.due("at all SEATS", x.out(), 2);
    }
}
