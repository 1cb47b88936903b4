/** Each sentence of the document that names an edge of the field, of PLAYERS, of when they PLAY and are HEARD. */
public final class FieldEdgesTest {
    public static void main(String[] args) {
        newObject();
        dots();
        farOfDots();
        seats();
        playersAtMost();
        kinds();
        numbersV();
        dotsOfTheirOwn();
        drum();
        listening();
        eyed();
        backward();
        forward();
        forwardByKind();
        ahead();
        echoed();
        counted();
        chains();
        of();
        heard();
        spread();
        together();
        back();
        backAsKind0();
        best();
        early();
        beats();
        Edges.end();
    }

    private static void newObject() {
        Edges.says("Nobody on the field");
        FieldBand x = new FieldBand();
        int[] counts = {0, 0, 0, 0, 0, 0, 60};
        for (int what = 0; what < counts.length; what++) Edges.due("count(" + what + ")", x.count(what), counts[what]);
        for (int p = 0; p < 10; p++) {
            Edges.due("of", x.of(p, 0), -1001);
            Edges.due("put", x.put(p, 0), Edges.NONE);
            Edges.due("heard", x.heard(0, p), -1001);
            Edges.due("early", x.early(p, 0), Edges.NONE);
            Edges.due("way", x.way(p), Edges.NONE);
            Edges.due("whom", x.whom(p, 0, 0), Edges.NONE);
            Edges.due("act", x.act(p, 0, 5), 0);
            Edges.due("as", x.as(p, 0), Edges.NONE);
            Edges.due("trace", x.trace(p), Edges.NONE);
        }
        Edges.due("two objects have nothing in common", x.player(0, 0, 0), 0);
        Edges.due("two objects have nothing in common", new FieldBand().count(0), 0);
    }

    private static void dots() {
        Edges.says("DOTS 0 .. 63");
        FieldBand x = new FieldBand();
        Edges.due("player on 0", x.player(0, 0, 0), 0);
        Edges.due("player on 63", x.player(0, 0, 63), 1);
        Edges.due("put from 0", x.put(0, 1), 0);
        Edges.due("put to 0", x.put(0, 0), 1);
        Edges.due("put from 63", x.put(1, 62), 63);
        Edges.due("put to 63", x.put(1, 63), 62);
        Edges.due("drum(0)", x.drum(0), 60);
        Edges.due("drum(63)", x.drum(63), 0);
        Edges.due("form(0)", x.form(0), 1);
        Edges.due("form(63)", x.form(63), 2);
        Edges.due("seen(0)", x.seen(0), 1);
        Edges.due("seen(63)", x.seen(63), 2);
        for (int dot : Edges.beside(63)) {
            Edges.due("player on " + dot, x.player(0, 0, dot), Edges.NONE);
            Edges.due("put to " + dot, x.put(0, dot), Edges.NONE);
            Edges.due("drum(" + dot + ")", x.drum(dot), Edges.NONE);
        }
        for (int dot : new int[] {-2, 64, Edges.MIN, Edges.MAX}) {
            Edges.due("form(" + dot + ")", x.form(dot), Edges.NONE);
            Edges.due("seen(" + dot + ")", x.seen(dot), Edges.NONE);
        }
        Edges.due("nothing changes", Edges.ofAll(x, 2), "0 63");
        int[] counts = {2, 0, 2, 2, 0, 0, 63};
        for (int what = 0; what < counts.length; what++) Edges.due("count(" + what + ")", x.count(what), counts[what]);
    }

    private static void farOfDots() {
        Edges.says("FAR of two DOTS: the greater of how many rows and how many columns they are apart");
        for (int a = 0; a < 64; a++) {
            FieldBand x = Edges.band("speed 1", Edges.LISTENING, 0, 0);
            x.drum(a);
            for (int b = 0; b < 64; b++) {
                x.put(0, b);
                int rows = Math.abs(a / 8 - b / 8);
                int columns = Math.abs(a % 8 - b % 8);
                Edges.due("FAR of " + a + " and " + b, x.of(0, 5), rows > columns ? rows : columns);
            }
        }
    }

    private static void seats() {
        Edges.says("SEATS: 0 .. 7 (SEAT c is before DOT c, one row beyond row 0)");
        FieldBand x = Edges.band("speed 1", Edges.EYED, 0, 0);
        int[][] far = {{0, 0, 1}, {7, 7, 1}, {7, 0, 7}, {0, 7, 7}, {1, 0, 1}, {2, 0, 2}, {0, 56, 8}, {7, 56, 8}, {7, 63, 8},
            {0, 63, 8}, {3, 27, 4}, {7, 24, 7}, {7, 48, 7}, {7, 8, 7}, {5, 8, 5}, {2, 8, 2}, {1, 8, 2}};
        for (int[] one : far) {
            x.put(0, one[1]);
            Edges.due("heard(" + one[0] + ", 0) on " + one[1], x.heard(one[0], 0), one[2]);
        }
        for (int dot = 0; dot < 64; dot++) {
            x = Edges.band("speed 1", Edges.EYED, 0, dot);
            for (int seat = 0; seat < 8; seat++) {
                int want = Math.max(dot / 8 + 1, Math.abs(dot % 8 - seat));
                Edges.due("heard(" + seat + ", 0) on " + dot, x.heard(seat, 0), want);
            }
        }
        for (int seat : new int[] {0, 7}) {
            Edges.due("spread at " + seat, x.spread(seat, 0), 0);
            Edges.due("back for " + seat, x.back(seat, 99), 1);
            Edges.due("early for " + seat, x.early(0, seat), 0);
            Edges.due("beats at " + seat, x.beats(seat), 0);
            Edges.due("whom at " + seat, x.whom(0, seat, 8), 2 | 8 | 16 | 64);
        }
        for (int seat : Edges.beside(7)) {
            Edges.due("heard at " + seat, x.heard(seat, 0), -1001);
            Edges.due("spread at " + seat, x.spread(seat, 0), Edges.NONE);
            Edges.due("back for " + seat, x.back(seat, 0), Edges.NONE);
            Edges.due("early for " + seat, x.early(0, seat), Edges.NONE);
            Edges.due("beats at " + seat, x.beats(seat), Edges.NONE);
            Edges.due("whom at " + seat, x.whom(0, seat, 8), Edges.NONE);
        }
    }

    private static void playersAtMost() {
        Edges.says("PLAYERS are numbered from 0 on, 10 at most");
        FieldBand x = new FieldBand();
        for (int p = 0; p < 10; p++) {
            Edges.due("count(0)", x.count(0), p);
            Edges.due("of the next one", x.of(p, 0), -1001);
            Edges.due("player " + p, x.player(p % 7, 9 - p, 63 - p), p);
            Edges.due("of(" + p + ", 0)", x.of(p, 0), p % 7);
            Edges.due("of(" + p + ", 1)", x.of(p, 1), 9 - p);
            Edges.due("of(" + p + ", 2)", x.of(p, 2), 63 - p);
        }
        Edges.due("an eleventh", x.player(0, 0, 0), Edges.FULL);
        Edges.due("an eleventh again", x.player(6, 9, 1), Edges.FULL);
        Edges.due("count(0)", x.count(0), 10);
        Edges.due("of(9, 2)", x.of(9, 2), 54);
        Edges.due("of(10, 2)", x.of(10, 2), -1001);
        Edges.due("nobody is there", x.put(0, 0), 63);
    }

    private static void kinds() {
        Edges.says("of a KIND: 0 LISTENING .. 6 COUNTED");
        FieldBand x = new FieldBand();
        for (int kind = 0; kind < 7; kind++) Edges.due("KIND " + kind, x.player(kind, 0, kind), kind);
        for (int kind : Edges.beside(6)) {
            Edges.due("KIND " + kind, x.player(kind, 0, 20), Edges.NONE);
            Edges.due("KIND " + kind + " and v", x.player(kind, 10, 20), Edges.NONE);
            Edges.due("KIND " + kind + " where one is", x.player(kind, 0, 0), Edges.NONE);
            Edges.due("taken for KIND " + kind, x.as(0, kind), Edges.NONE);
        }
        Edges.due("KINDS", Edges.ofAll(x, 0), "0 1 2 3 4 5 6");
        Edges.says("1 EYED, 2 BACKWARD, 3 FORWARD under LISTENING; 4 AHEAD under EYED; 5 ECHOED under BACKWARD; 6 COUNTED under FORWARD");
        x = Edges.band("", 0, 9, 0, 1, 8, 1, 2, 7, 2, 3, 6, 3, 4, 5, 4, 5, 4, 5, 6, 3, 6);
        int[][] as = {{9, -6, -6, -6, -6, -6, -6}, {8, 8, -6, -6, -6, -6, -6}, {7, -6, 7, -6, -6, -6, -6}, {6, -6, -6, 6, -6, -6, -6},
            {5, 5, -6, -6, 5, -6, -6}, {4, -6, 4, -6, -6, 4, -6}, {3, -6, -6, 3, -6, -6, 3}};
        for (int p = 0; p < 7; p++) {
            for (int k = 0; k < 7; k++) Edges.due("as(" + p + ", " + k + ")", x.as(p, k), as[p][k]);
        }
        Edges.says("NONE: player, k; -6: it is of another KIND");
        for (int p : Edges.beside(6)) {
            Edges.due("as(" + p + ", 0)", x.as(p, 0), Edges.NONE);
            Edges.due("as(" + p + ", 7)", x.as(p, 7), Edges.NONE);
        }
    }

    private static void numbersV() {
        Edges.says("a number v (0 .. 9)");
        FieldBand x = new FieldBand();
        Edges.due("v 0", x.player(0, 0, 0), 0);
        Edges.due("v 9", x.player(0, 9, 1), 1);
        for (int v : Edges.beside(9)) {
            Edges.due("v " + v, x.player(0, v, 2), Edges.BAD);
            Edges.due("v " + v + " where one is", x.player(0, v, 0), Edges.BAD);
            Edges.due("v " + v + " on no DOT", x.player(0, v, 64), Edges.NONE);
        }
        Edges.due("count(0)", x.count(0), 2);
        Edges.due("vs", Edges.ofAll(x, 1), "0 9");
        Edges.due("as(0, 0)", x.as(0, 0), 0);
        Edges.due("as(1, 0)", x.as(1, 0), 9);
    }

    private static void dotsOfTheirOwn() {
        Edges.says("each on a DOT of its own; STATE: another one is there");
        FieldBand x = Edges.row("", 1, 9);
        for (int p = 0; p < 9; p++) Edges.due("a player on " + p, x.player(0, 0, p), Edges.STATE);
        Edges.due("count(0)", x.count(0), 9);
        Edges.due("the tenth", x.player(0, 0, 9), 9);
        for (int p = 0; p < 10; p++) Edges.due("STATE ahead of FULL on " + p, x.player(0, 0, p), Edges.STATE);
        for (int p = 0; p < 10; p++) {
            for (int dot = 0; dot < 10; dot++) Edges.due("put(" + p + ", " + dot + ")", x.put(p, dot), p == dot ? p : Edges.STATE);
        }
        Edges.due("DOTS", Edges.ofAll(x, 2), "0 1 2 3 4 5 6 7 8 9");
        // where one was, another one may go
        Edges.due("put(3, 40)", x.put(3, 40), 3);
        Edges.due("put(9, 3)", x.put(9, 3), 9);
        Edges.due("put(9, 40)", x.put(9, 40), Edges.STATE);
        Edges.due("put(8, 9)", x.put(8, 9), 8);
        Edges.due("DOTS", Edges.ofAll(x, 2), "0 1 2 40 4 5 6 7 9 3");
        Edges.says("NONE; STATE: another one is there");
        for (int p : Edges.beside(9)) {
            Edges.due("put(" + p + ", 0)", x.put(p, 0), Edges.NONE);
            Edges.due("put(" + p + ", 63)", x.put(p, 63), Edges.NONE);
        }
        Edges.due("DOTS", Edges.ofAll(x, 2), "0 1 2 40 4 5 6 7 9 3");
    }

    private static void drum() {
        Edges.says("THE DRUM is on a DOT (60 at first; no PLAYER)");
        FieldBand x = new FieldBand();
        Edges.due("at first", x.count(6), 60);
        Edges.due("a PLAYER on its DOT", x.player(0, 0, 60), 0);
        Edges.due("another PLAYER", x.player(0, 0, 0), 1);
        Edges.due("it goes to a PLAYER's DOT", x.drum(0), 60);
        Edges.due("where it is", x.drum(0), 0);
        Edges.due("a PLAYER goes to it", x.drum(7), 0);
        Edges.due("a PLAYER goes to it", x.put(1, 7), 0);
        for (int dot : Edges.beside(63)) Edges.due("drum(" + dot + ")", x.drum(dot), Edges.NONE);
        Edges.due("where it is", x.count(6), 7);
        Edges.due("PLAYERS", x.count(0), 2);
        // nobody listens forward to THE DRUM, and it is not HEARD among PLAYERS
        x = Edges.band("speed 5", Edges.FORWARD, 0, 44);
        x.drum(36);
        Edges.due("FORWARD behind THE DRUM", x.of(0, 5), 0);
        Edges.due("SPREAD", x.spread(0, 0), 0);
        x = Edges.band("speed 5", Edges.FORWARD, 0, 36, Edges.BACKWARD, 0, 20);
        x.drum(28);
        Edges.due("THE DRUM between them: BACKWARD", x.of(1, 5), 5 + 10);
        Edges.due("THE DRUM between them: FORWARD", x.of(0, 5), 5);
    }

    private static void listening() {
        Edges.says("LISTENING: SPEED times FAR from THE DRUM");
        FieldBand x = Edges.band("speed 99;late 4 p=0", Edges.LISTENING, 9, 60);
        Edges.due("on THE DRUM's DOT", x.of(0, 5), 4);
        x.put(0, 0);
        Edges.due("7 away", x.of(0, 5), 4 + 693);
        Edges.due("without CLAUSES", Edges.band("", Edges.LISTENING, 9, 0).of(0, 5), 21);
        Edges.due("SPEED 0", Edges.band("speed 0", Edges.LISTENING, 9, 0).of(0, 5), 0);
    }

    private static void eyed() {
        Edges.says("EYED: nothing");
        Edges.due("EYED", Edges.band("speed 99", Edges.EYED, 9, 0).of(0, 5), 0);
        Edges.due("EYED with SLIP", Edges.band("late 7 p=0", Edges.EYED, 9, 0).of(0, 5), 7);
    }

    private static void backward() {
        Edges.says("BACKWARD: as LISTENING; but if there are PLAYERS in its column in greater rows: PLAYS of the one of the least of these rows, and SPEED times FAR from that one");
        // BACKWARD in row 2, column 1; THE DRUM is 5 away
        FieldBand x = Edges.band("speed 1;late 30 p=1;late 40 p=2", Edges.BACKWARD, 0, 17);
        Edges.due("alone", x.of(0, 5), 5);
        x.player(Edges.EYED, 0, 9);
        Edges.due("one in a lesser row", x.of(0, 5), 5);
        int[] others = {1, 16, 18, 24, 26, 56, 58, 63};
        for (int dot : others) {
            x.put(1, dot);
            Edges.due("one on " + dot, x.of(0, 5), 5);
        }
        for (int row = 3; row < 8; row++) {
            x.put(1, 8 * row + 1);
            Edges.due("one in row " + row, x.of(0, 5), 30 + row - 2);
        }
        x.player(Edges.EYED, 0, 25);
        Edges.due("the nearer one", x.of(0, 5), 40 + 1);
        x.put(2, 49);
        Edges.due("the nearer one", x.of(0, 5), 40 + 4);
        x.put(1, 41);
        Edges.due("the nearer one", x.of(0, 5), 30 + 3);
        x = Edges.band("late 2 p=0;late 5 p=1", Edges.BACKWARD, 0, 0, Edges.EYED, 0, 56);
        Edges.due("row 0, its own SLIP too", x.of(0, 5), 2 + 5 + 21);
        Edges.due("row 7: as LISTENING", Edges.band("", Edges.BACKWARD, 0, 63, Edges.EYED, 0, 55).of(0, 5), 9);
        for (int kind = 0; kind < 7; kind++) {
            // on 12, of KIND k, v 5, number 1: FAR from THE DRUM is 6
            int[] behind = {6, 0, 6, 6, -5, 6 + 1, 5};
            x = Edges.band("speed 1", Edges.BACKWARD, 0, 4, kind, 5, 12);
            Edges.due("behind it is KIND " + kind, x.of(0, 5), behind[kind] + 1);
        }
    }

    private static void forward() {
        Edges.says("FORWARD: as EYED; but if there are PLAYERS in its column in lesser rows: PLAYS of the one of the greatest of these rows, and SPEED times FAR from that one");
        // FORWARD in row 5, column 1
        FieldBand x = Edges.band("speed 1;late 30 p=1;late 40 p=2", Edges.FORWARD, 0, 41);
        Edges.due("alone", x.of(0, 5), 0);
        x.player(Edges.EYED, 0, 49);
        Edges.due("one in a greater row", x.of(0, 5), 0);
        int[] others = {57, 40, 42, 32, 34, 0, 2, 7};
        for (int dot : others) {
            x.put(1, dot);
            Edges.due("one on " + dot, x.of(0, 5), 0);
        }
        for (int row = 0; row < 5; row++) {
            x.put(1, 8 * row + 1);
            Edges.due("one in row " + row, x.of(0, 5), 30 + 5 - row);
        }
        x.put(1, 1);
        x.player(Edges.EYED, 0, 33);
        Edges.due("the nearer one", x.of(0, 5), 40 + 1);
        x.put(2, 9);
        Edges.due("the nearer one", x.of(0, 5), 40 + 4);
        x.put(1, 17);
        Edges.due("the nearer one", x.of(0, 5), 30 + 3);
        x = Edges.band("late 2 p=0;late 5 p=1", Edges.FORWARD, 0, 56, Edges.EYED, 0, 0);
        Edges.due("row 7, its own SLIP too", x.of(0, 5), 2 + 5 + 21);
        Edges.due("row 0: as EYED", Edges.band("", Edges.FORWARD, 0, 0, Edges.EYED, 0, 8).of(0, 5), 0);
    }

    private static void forwardByKind() {
        Edges.says("and as LISTENING, if that one is a BACKWARD one (or under it)");
        // FORWARD on 41 is 3 from THE DRUM; the one on 33 is 3 from it, of v 4 and number 1
        int[] before = {3 + 1, 0 + 1, 3, 0 + 1, -4 + 1, 3, 4 + 1};
        for (int kind = 0; kind < 7; kind++) {
            FieldBand x = Edges.band("speed 1", Edges.FORWARD, 0, 41, kind, 4, 33);
            Edges.due("before it is KIND " + kind, x.of(0, 5), before[kind]);
            x = Edges.band("speed 1;late 9 p=0", Edges.FORWARD, 0, 41, kind, 4, 33);
            Edges.due("before it is KIND " + kind + ", with SLIP", x.of(0, 5), 9 + before[kind]);
        }
        // the next one before it alone counts
        FieldBand x = Edges.band("speed 1", Edges.FORWARD, 0, 41, Edges.EYED, 0, 33, Edges.BACKWARD, 0, 25);
        Edges.due("an EYED one, then a BACKWARD one", x.of(0, 5), 1);
        x = Edges.band("speed 1", Edges.FORWARD, 0, 41, Edges.EYED, 0, 25, Edges.ECHOED, 0, 33);
        Edges.due("an ECHOED one, then an EYED one", x.of(0, 5), 3);
        x = Edges.band("speed 1", Edges.FORWARD, 0, 41, Edges.BACKWARD, 0, 49);
        Edges.due("a BACKWARD one behind it", x.of(0, 5), 0);
        x = Edges.band("speed 1", Edges.FORWARD, 0, 41, Edges.BACKWARD, 0, 34);
        Edges.due("a BACKWARD one in another column", x.of(0, 5), 0);
    }

    private static void ahead() {
        Edges.says("AHEAD: as EYED, and v less");
        for (int v = 0; v < 10; v++) {
            Edges.due("v " + v, Edges.band("speed 99", Edges.AHEAD, v, 0).of(0, 5), -v);
            Edges.due("v " + v, Edges.band("late 9 p=0", Edges.AHEAD, v, 0).of(0, 5), 9 - v);
        }
    }

    private static void echoed() {
        Edges.says("ECHOED: as BACKWARD, and SPEED times its row");
        for (int row = 0; row < 8; row++) {
            Edges.due("row " + row, Edges.band("speed 2", Edges.ECHOED, 9, 8 * row + 4).of(0, 5), 2 * (7 - row) + 2 * row);
            Edges.due("SPEED 0", Edges.band("speed 0", Edges.ECHOED, 9, 8 * row + 4).of(0, 5), 0);
        }
        FieldBand x = Edges.band("speed 1;late 3 p=0;late 30 p=1", Edges.ECHOED, 0, 36, Edges.EYED, 0, 44);
        Edges.due("one behind it", x.of(0, 5), 3 + 30 + 1 + 4);
        x.put(1, 28);
        Edges.due("one before it", x.of(0, 5), 3 + 3 + 4);
    }

    private static void counted() {
        Edges.says("COUNTED: as EYED, and v times its number");
        FieldBand x = new FieldBand();
        for (int p = 0; p < 9; p++) x.player(Edges.COUNTED, p == 0 ? 9 : p, p);
        x.player(Edges.COUNTED, 9, 63);
        Edges.due("PLAYS", Edges.ofAll(x, 5), "0 1 4 9 16 25 36 49 64 81");
        x = Edges.row("", Edges.EYED, 9);
        x.player(Edges.COUNTED, 0, 63);
        Edges.due("v 0", x.of(9, 5), 0);
        x = Edges.band("late 7 p=0;late 5 p=1", Edges.LISTENING, 0, 0, Edges.COUNTED, 9, 8);
        Edges.due("not as FORWARD", x.of(1, 5), 5 + 9);
    }

    private static void chains() {
        Edges.says("PLAYS of the one of the least of these rows; PLAYS of the one of the greatest of these rows");
        int[] back = new int[24];
        int[] fore = new int[24];
        for (int row = 0; row < 8; row++) {
            back[3 * row] = row == 7 ? Edges.EYED : Edges.BACKWARD;
            back[3 * row + 2] = 8 * row;
            fore[3 * row] = row == 0 ? Edges.EYED : Edges.FORWARD;
            fore[3 * row + 2] = 8 * row;
        }
        Edges.due("all back", Edges.ofAll(Edges.band("speed 1;late 1 p<9", back), 5), "15 13 11 9 7 5 3 1");
        Edges.due("all forth", Edges.ofAll(Edges.band("speed 1;late 1 p<9", fore), 5), "1 3 5 7 9 11 13 15");
        back[21] = Edges.ECHOED;
        Edges.due("from THE DRUM", Edges.ofAll(Edges.band("speed 1", back), 5), "18 17 16 15 14 13 12 11");
        for (int row = 0; row < 8; row++) back[3 * row] = row % 2 == 0 ? Edges.BACKWARD : Edges.FORWARD;
        // each FORWARD one has a BACKWARD one before it, and so listens to THE DRUM
        Edges.due("by turns", Edges.ofAll(Edges.band("speed 1", back), 5), "7 6 5 4 5 4 5 4");
    }

    private static void of() {
        Edges.says("Of a PLAYER what 0 KIND, 1 v, 2 DOT, 3 LOUD, 4 SLIP, 5 PLAYS. -1001: NONE");
        FieldBand x = Edges.band("loud 6 p=0;late 3 p=0", Edges.AHEAD, 4, 36);
        int[] want = {4, 4, 36, 7, 3, -1};
        for (int what = 0; what < 6; what++) Edges.due("of(0, " + what + ")", x.of(0, what), want[what]);
        for (int what : Edges.beside(5)) Edges.due("of(0, " + what + ")", x.of(0, what), -1001);
        for (int p : Edges.beside(0)) {
            for (int what = -1; what < 7; what++) Edges.due("of(" + p + ", " + what + ")", x.of(p, what), -1001);
        }
    }

    private static void heard() {
        Edges.says("HEARD at a SEAT from a PLAYER: PLAYS, and SPEED times FAR. -1001: NONE");
        FieldBand x = Edges.band("speed 0", Edges.AHEAD, 9, 0, Edges.AHEAD, 1, 1);
        Edges.due("heard(0, 0)", x.heard(0, 0), -9);
        Edges.due("heard(0, 1)", x.heard(0, 1), -1);
        String late = "late 99 p<9;".repeat(8);
        x = Edges.band(late + "speed 99", Edges.BACKWARD, 0, 0, Edges.BACKWARD, 0, 56);
        Edges.due("very late", x.heard(7, 0), 792 + 792 + 99 * 4 + 99 * 7 + 99 * 7);
        for (int p : Edges.beside(1)) {
            Edges.due("heard(0, " + p + ")", x.heard(0, p), -1001);
            Edges.due("heard(8, " + p + ")", x.heard(8, p), -1001);
        }
        for (int seat : Edges.beside(7)) Edges.due("heard(" + seat + ", 1)", x.heard(seat, 1), -1001);
    }

    private static void spread() {
        Edges.says("SPREAD at a SEAT: the latest HEARD of all PLAYERS less the earliest one (0 without PLAYERS)");
        for (int seat = 0; seat < 8; seat++) {
            Edges.due("without PLAYERS", new FieldBand().spread(seat, 0), 0);
            Edges.due("one PLAYER", Edges.band("late 9 p=0", 0, 0, 9).spread(seat, 0), 0);
        }
        FieldBand x = Edges.band("speed 0;late 30 p=1;late 12 p=2", Edges.AHEAD, 9, 0, 1, 0, 1, 1, 0, 2);
        Edges.due("the earliest one below 0", x.spread(0, 0), 39);
        x = Edges.band("speed 0;late 30 p=1;late 12 p=2;late 40 p=0", 1, 0, 0, 1, 0, 1, 1, 0, 2);
        Edges.due("the latest one first", x.spread(0, 0), 28);
        x = Edges.band("speed 0;late 30 p=0;late 12 p=1;late 40 p=2", 1, 0, 0, 1, 0, 1, 1, 0, 2);
        Edges.due("the latest one last", x.spread(0, 0), 28);
        x = Edges.row("speed 0;late 99 p=9", 1, 10);
        Edges.due("the tenth one", x.spread(0, 0), 99);
        x = Edges.row("speed 0;late 99 p>0", 1, 10);
        Edges.due("the first one", x.spread(0, 0), 99);
    }

    private static void together() {
        Edges.says("TOGETHER at a SEAT by n: no more than n hundredths ahead of or behind the one with the greatest LOUD");
        // HEARD 50, 1, 99, 50; LOUD 5, 2, 3, 1
        String text = "speed 0;late 50 p=0|p=3;late 1 p=1;late 99 p=2;loud 4 p=0;loud 1 p=1;loud 2 p=2";
        FieldBand x = Edges.row(text, 1, 4);
        Edges.due("by 0", x.spread(0, 1), 6);
        Edges.due("by 48", x.spread(0, 49), 6);
        Edges.due("by 49", x.spread(0, 50), 11);
        x = Edges.row("speed 0;late 50 p=0;late 1 p=1;loud 4 p=0", 1, 3);
        Edges.due("49 ahead, not 50", x.spread(0, 50), 6);
        Edges.due("not 49 ahead", x.spread(0, 49), 5);
        x = Edges.row("speed 0;late 49 p=1;late 50 p=2;loud 4 p=0", 1, 3);
        Edges.due("49 behind, not 50", x.spread(0, 50), 6);
        Edges.due("not 49 behind", x.spread(0, 49), 5);
        x = Edges.row("speed 0;late 7 p=1;loud 4 p=2", 1, 3);
        Edges.due("not 7 behind the last one", x.spread(0, 7), 6);
        Edges.due("7 behind the last one", x.spread(0, 8), 7);
        Edges.says("(of several the least)");
        x = Edges.row("speed 0;late 20 p=1;loud 4 p<2", 1, 3);
        Edges.due("by the first of two", x.spread(0, 1), 6);
        x = Edges.row("speed 0;late 20 p=0;loud 4 p<2", 1, 3);
        Edges.due("by the first of two", x.spread(0, 1), 5);
        Edges.due("all alike LOUD", Edges.row("speed 0;late 9 p>0", 1, 4).spread(0, 1), 1);
        Edges.says("At a SEAT what 0 SPREAD, 1 .. 50 TOGETHER by what less 1. NONE");
        for (int seat = 0; seat < 8; seat++) {
            Edges.due("nobody by 0", new FieldBand().spread(seat, 1), 0);
            Edges.due("nobody by 49", new FieldBand().spread(seat, 50), 0);
        }
        for (int what : Edges.beside(50)) {
            Edges.due("what " + what, x.spread(0, what), Edges.NONE);
            Edges.due("what " + what + " of nobody", new FieldBand().spread(0, what), Edges.NONE);
            Edges.due("what " + what + " at no SEAT", x.spread(8, what), Edges.NONE);
        }
    }

    private static void back() {
        Edges.says("BACK for a SEAT by n (0 .. 99), as bits. NONE; BAD");
        // SLIP alone parts them from THE DRUM: 0, 1, 98, 99, 100
        FieldBand x = Edges.row("speed 0;late 1 p=1;late 98 p=2;late 99 p>2;late 1 p>3", 1, 5);
        Edges.due("by 0", x.back(0, 0), 1);
        Edges.due("by 1", x.back(0, 1), 3);
        Edges.due("by 97", x.back(7, 97), 3);
        Edges.due("by 98", x.back(7, 98), 7);
        Edges.due("by 99", x.back(7, 99), 15);
        for (int n : Edges.beside(99)) {
            Edges.due("by " + n, x.back(0, n), Edges.BAD);
            Edges.due("by " + n + " of nobody", new FieldBand().back(0, n), Edges.BAD);
        }
        for (int seat : Edges.beside(7)) {
            Edges.due("for " + seat, x.back(seat, 0), Edges.NONE);
            Edges.due("for " + seat + " by 100", x.back(seat, 100), Edges.NONE);
        }
        Edges.due("of nobody", new FieldBand().back(0, 0), 0);
        Edges.due("of ten", Edges.row("speed 0", 1, 10).back(0, 0), 1023);
        Edges.due("of the tenth", Edges.row("speed 0;late 1 p<9", 1, 10).back(0, 0), 512);
    }

    private static void backAsKind0() {
        Edges.says("PLAYERS that, if they were of KIND 0, would be HEARD there .. ahead of or behind THE DRUM (that is HEARD SPEED times FAR behind hundredth 0)");
        for (int kind = 0; kind < 7; kind++) {
            // THE DRUM on 60 is HEARD at 8 at SEAT 4; on 4 as LISTENING 7 + 1, on 0 as LISTENING 7 + 4
            FieldBand x = Edges.band("speed 1", kind, 9, 4, kind, 9, 0);
            Edges.due("KIND " + kind + " by 0", x.back(4, 0), 1);
            Edges.due("KIND " + kind + " by 2", x.back(4, 2), 1);
            Edges.due("KIND " + kind + " by 3", x.back(4, 3), 3);
            Edges.due("KIND " + kind + " stays", x.of(0, 0), kind);
            // its KIND counts for k, too, as it is taken for one of KIND 0
            x = Edges.band("speed 0;late 9 k=0;late 20 k>0", kind, 0, 4);
            Edges.due("k of KIND " + kind, x.back(4, 8), 0);
            Edges.due("k of KIND " + kind, x.back(4, 9), 1);
        }
        // THE DRUM on 0 is HEARD at 1 at SEAT 0: on 7 as LISTENING 7 + 7
        FieldBand x = Edges.band("speed 1", 1, 0, 7);
        x.drum(0);
        Edges.due("THE DRUM on 0, by 12", x.back(0, 12), 0);
        Edges.due("THE DRUM on 0, by 13", x.back(0, 13), 1);
    }

    private static int sumOfSpreads(FieldBand x) {
        int sum = 0;
        for (int seat = 0; seat < 8; seat++) sum += x.spread(seat, 0);
        return sum;
    }

    /** BEST DRUM by THE DRUM being put on each DOT; answers the DOT that were best, if PLAYERS' DOTS counted. */
    private static int bestByHand(String what, String text, int... triples) {
        int best = -1;
        int least = Edges.MAX;
        int bestOfAll = -1;
        int leastOfAll = Edges.MAX;
        for (int dot = 0; dot < 64; dot++) {
            FieldBand x = Edges.band(text, triples);
            boolean isFree = !(" " + Edges.ofAll(x, 2) + " ").contains(" " + dot + " ");
            x.drum(dot);
            int sum = sumOfSpreads(x);
            if (sum < leastOfAll) {
                leastOfAll = sum;
                bestOfAll = dot;
            }
            if (isFree && sum < least) {
                least = sum;
                best = dot;
            }
        }
        FieldBand x = Edges.band(text, triples);
        Edges.due(what + ": best(0)", x.best(0), best);
        Edges.due(what + ": best(1)", x.best(1), least);
        Edges.due(what + ": THE DRUM stays", x.drum(0), 60);
        return bestOfAll;
    }

    private static void best() {
        Edges.says("BEST DRUM: the DOT without a PLAYER such that .. the sum of SPREADS at all SEATS were least (of several the least)");
        Edges.due("without PLAYERS", new FieldBand().best(0), 0);
        Edges.due("without PLAYERS", new FieldBand().best(1), 0);
        for (int players = 1; players <= 10; players++) {
            FieldBand x = Edges.row("speed 0", 0, players);
            Edges.due("all alike for " + players, x.best(0), players);
            Edges.due("all alike for " + players, x.best(1), 0);
            x.drum(players);
            Edges.due("THE DRUM being there", x.best(0), players);
            x.drum(0);
            Edges.due("THE DRUM being on a PLAYER's DOT", x.best(0), players);
            Edges.due("THE DRUM stays", x.count(6), 0);
        }
        // HEARD at all SEATS at once: no SLIP, and a SPREAD of 99 by one that is late
        FieldBand x = Edges.row("speed 0;late 99 p=1", 1, 2);
        Edges.due("the sum of all SEATS", x.best(1), 8 * 99);
        bestByHand("two LISTENING", "speed 1", 0, 0, 0, 0, 0, 56);
        bestByHand("four in the corners", "speed 1", 0, 0, 0, 0, 0, 7, 0, 0, 56, 0, 0, 63);
        bestByHand("one near, one EYED", "speed 2;late 5 p=0", 1, 0, 27, 0, 0, 36, 5, 2, 63);
        // 7 and 56 are both 7 from 0 and 63 alone, and the late one is on 0
        int last = bestByHand("the last DOT", "speed 1;late 99 p=0;late 7 p=1", 1, 0, 0, 0, 0, 7, 0, 0, 56);
        Edges.due("the same sum on a PLAYER's DOT", last, 0);
        Edges.due("the last DOT", Edges.band("speed 1;late 99 p=0;late 7 p=1", 1, 0, 0, 0, 0, 7, 0, 0, 56).best(0), 63);
        // the farther THE DRUM from the LISTENING one, the better: beyond the DOTS it would be better still
        bestByHand("no row beyond row 7", "speed 1;late 99 p=0", 1, 0, 20, 0, 0, 0);
        bestByHand("no row beyond row 0", "speed 1;late 99 p=0", 1, 0, 20, 0, 0, 56);
        // THE DRUM is best where the LISTENING one is, and can't be there
        int bestOfAll = bestByHand("on a PLAYER's DOT", "speed 5", 1, 0, 0, 0, 0, 27);
        Edges.due("a PLAYER is on the best one", bestOfAll, 27);
        Edges.says("what 0 the DOT, 1 the sum. NONE");
        for (int what : Edges.beside(1)) {
            Edges.due("best(" + what + ")", x.best(what), Edges.NONE);
            Edges.due("best(" + what + ")", new FieldBand().best(what), Edges.NONE);
        }
    }

    private static void early() {
        Edges.says("EARLY of a PLAYER for a SEAT: when it is HEARD less when the earliest one is");
        Edges.due("one alone", Edges.band("late 9 p=0", 0, 0, 0).early(0, 0), 0);
        FieldBand x = Edges.row("speed 0;late 5 p=0;late 2 p=1;late 99 p=9", 1, 10);
        Edges.due("early(0, 0)", x.early(0, 0), 5);
        Edges.due("early(1, 7)", x.early(1, 7), 2);
        Edges.due("early(2, 0)", x.early(2, 0), 0);
        Edges.due("early(9, 0)", x.early(9, 0), 99);
        x = Edges.band("speed 0;late 9 p=1", Edges.AHEAD, 9, 0, 1, 0, 1);
        Edges.due("the earliest one below 0", x.early(1, 0), 18);
        Edges.due("the earliest one below 0", x.early(0, 0), 0);
        for (int p : Edges.beside(1)) {
            Edges.due("early(" + p + ", 0)", x.early(p, 0), Edges.NONE);
            Edges.due("early(" + p + ", 8)", x.early(p, 8), Edges.NONE);
        }
        for (int seat : Edges.beside(7)) Edges.due("early(0, " + seat + ")", x.early(0, seat), Edges.NONE);
    }

    private static void beats() {
        Edges.says("SPREAD at a SEAT by BEAT (cut). NONE");
        int[][] rows = {{19, 20, 0}, {20, 20, 1}, {39, 20, 1}, {40, 20, 2}, {0, 20, 0}, {99, 1, 99}, {99, 0, 99}, {98, 99, 0}, {99, 99, 1}};
        for (int[] one : rows) {
            FieldBand x = Edges.row("speed 0;beat " + one[1] + ";late " + one[0] + " p=1", 1, 2);
            Edges.due("SPREAD " + one[0] + " by BEAT " + one[1], x.beats(0), one[2]);
        }
        Edges.due("SPREAD 49 by 50", Edges.row("speed 0;late 49 p=1", 1, 2).beats(7), 0);
        Edges.due("SPREAD 50 by 50", Edges.row("speed 0;late 50 p=1", 1, 2).beats(7), 1);
        Edges.due("nobody", Edges.band("beat 0").beats(0), 0);
        Edges.due("nobody", new FieldBand().beats(0), 0);
        for (int seat : Edges.beside(7)) Edges.due("beats(" + seat + ")", new FieldBand().beats(seat), Edges.NONE);
    }
}
