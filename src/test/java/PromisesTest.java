/** For each promise of the document: ordinary inputs, the edges that it names, and wrong inputs. */
public final class PromisesTest {
    private static int wrong = 0;
    private static int promise = 0;

    private static final int MIN = Integer.MIN_VALUE;
    private static final int MAX = Integer.MAX_VALUE;

    private static void due(String what, int got, int want) {
        if (got != want) {
            wrong++;
            System.out.println("promise " + promise + ": " + what + " answered " + got + ", due is " + want);
        }
    }

    private static void feedText(FieldBand x, String text) {
        for (int i = 0; i < text.length(); i++) x.feed(text.charAt(i), 1);
    }

    private static int show(FieldBand x, String text) {
        feedText(x, text);
        return x.show();
    }

    private static FieldBand withShow(String text) {
        FieldBand x = new FieldBand();
        due("show of " + text, show(x, text), 0);
        return x;
    }

    /** PLAYERS as triples of KIND, v, DOT. */
    private static FieldBand withPlayers(String text, int... triples) {
        FieldBand x = text.isEmpty() ? new FieldBand() : withShow(text);
        for (int i = 0; i < triples.length; i += 3) {
            due("player " + i / 3, x.player(triples[i], triples[i + 1], triples[i + 2]), i / 3);
        }
        return x;
    }

    private static void formOf(FieldBand x, int... dots) {
        x.form(-1);
        for (int i = 0; i < dots.length; i++) due("form(" + dots[i] + ")", x.form(dots[i]), i + 1);
    }

    public static void main(String[] args) {
        newObject();
        feed();
        showNumbers();
        showFaults();
        showMeaning();
        told();
        player();
        of();
        playsByKind();
        drum();
        put();
        heard();
        spread();
        back();
        best();
        early();
        beats();
        form();
        way();
        counts();
        meet();
        hard();
        march();
        seen();
        off();
        whom();
        out();
        act();
        trace();
        as();
        image();
        undo();
        count();
        if (wrong != 0) System.exit(1);
    }

    private static void newObject() {
        promise = 1;
        FieldBand x = new FieldBand();
        int[] counts = {0, 0, 0, 0, 0, 0, 60};
        for (int i = 0; i < counts.length; i++) due("count(" + i + ")", x.count(i), counts[i]);
        due("told(0)", x.told(0), 3);
        due("told(1)", x.told(1), 50);
        due("told(2)", x.told(2), 2);
        due("undo()", x.undo(), FieldBand.STATE);
        due("trace(0)", x.trace(0), FieldBand.NONE);
        due("of(0, 0)", x.of(0, 0), -1001);
    }

    private static void feed() {
        promise = 2;
        FieldBand x = new FieldBand();
        for (int n : new int[] {0, -1, 9, MIN, MAX}) due("feed(0, " + n + ")", x.feed(0, n), FieldBand.BAD);
        due("count(4)", x.count(4), 0);
        for (int i = 1; i <= 14; i++) due("feed 8", x.feed(0, 8), 8 * i);
        due("feed 7", x.feed(0, 7), 119);
        due("feed 2 over", x.feed(0, 2), FieldBand.FULL);
        due("count(4)", x.count(4), 119);
        due("feed 1", x.feed(0, 1), 120);
        due("feed 1 over", x.feed(0, 1), FieldBand.FULL);
        due("feed 9 over", x.feed(0, 9), FieldBand.BAD);
        due("count(4)", x.count(4), 120);
        x = new FieldBand();
        // "beat 7" as b, ea, t 7 below bytes that are not taken
        x.feed(0x1122334455667762L, 1);
        x.feed(0x7f7f7f7f7f7f6561L, 2);
        due("feed 3", x.feed(0xffffffffff742037L, 3), 6);
        due("show()", x.show(), 0);
        due("told(1)", x.told(1), 7);
    }

    private static void showNumbers() {
        promise = 3;
        FieldBand x = new FieldBand();
        due("empty tape", x.show(), -10);
        for (int i = 0; i < 5; i++) {
            due("show " + i, show(x, "speed " + (i + 1)), i);
            due("tape is empty", x.count(4), 0);
            due("the newest holds", x.told(0), i + 1);
            due("fault", i == 4 ? -12 : show(x, "sp"), -12);
            due("the one that held holds", x.told(0), i + 1);
        }
        due("sixth show", show(x, "speed 9"), FieldBand.FULL);
        due("tape stays", x.count(4), 7);
        due("the fifth holds", x.told(0), 5);
        due("SHOWS", x.count(1), 5);
        // nothing of a text with a FAULT is left in the next one
        x = withPlayers("", 0, 0, 0);
        due("fault", show(x, "speed 9;beat 9;step 9;loud 9 p=0;late 9 p=0;"), -10 - 44);
        due("told(0)", x.told(0), 3);
        due("of(0, 3)", x.of(0, 3), 1);
        due("show", show(x, "late 2 p=1;loud 4 p=0"), 0);
        due("told(0)", x.told(0), 3);
        due("told(1)", x.told(1), 50);
        due("told(2)", x.told(2), 2);
        due("of(0, 3)", x.of(0, 3), 5);
        due("of(0, 4)", x.of(0, 4), 0);
    }

    private static void fault(String text, int place) {
        FieldBand x = new FieldBand();
        due("show of '" + text + "'", show(x, text), place < 0 ? 0 : -10 - place);
        due("tape behind '" + text + "'", x.count(4), 0);
        due("SHOWS behind '" + text + "'", x.count(1), place < 0 ? 1 : 0);
    }

    private static void showFaults() {
        fault("", 0);
        fault(" speed 1", 0);
        fault("s", 1);
        fault("st", 2);
        fault("spx", 2);
        fault("louder 1 p=1", 4);
        fault("loud", 4);
        fault("loud ", 5);
        fault("loud  1 p=1", 5);
        fault("loud 1", 6);
        fault("loud 1;", 6);
        fault("loud 1 ", 7);
        fault("loud 1  p=1", 7);
        fault("loud 1 p", 8);
        fault("loud 1 p=", 9);
        fault("loud 1 p=1", -1);
        fault("loud 1 p=01", 10);
        fault("loud 1 p=00", 10);
        fault("loud 1 p=10", -1);
        fault("loud 1 p=100", 11);
        fault("loud 1 p==1", 9);
        fault("loud 1 p =1", 8);
        fault("loud 1 p=1 ", 10);
        fault("loud 1 p=1)", 10);
        fault("loud 1 p=1&", 11);
        fault("loud 1 p=1|", 11);
        fault("loud 1 p=1!", 10);
        fault("loud 1 p=1&&p=1", 11);
        fault("loud 1 p=1|;", 11);
        fault("loud 1 (p=1", 11);
        fault("loud 1 (p=1;", 11);
        fault("loud 1 ()", 8);
        fault("loud 1 (p=1)(", 12);
        fault("loud 1 !", 8);
        fault("loud 1 !&", 8);
        fault("late 00 p=1", 6);
        fault("late 10 k<2|v>3&!(r=1|c=2)", -1);
        fault("beat 5 p=1", 6);
        fault("beat -1", 5);
        fault("beat 5;;", 7);
        fault("step 5;", 7);
        fault("beat 5" + (char) 233, 6);
        fault("" + (char) 0, 0);
        openFaults();
        clauseFaults();
    }

    private static void openFaults() {
        fault("late 1 !!!!!p=1", -1);
        fault("late 1 !!!!!!p=1", 12);
        fault("late 1 (((((p=1)))))", -1);
        fault("late 1 ((((((p=1))))))", 12);
        fault("late 1 !(!(!p=1))", -1);
        fault("late 1 !(!(!!p=1))", 12);
        fault("late 1 !(!(!(p=1)))", 12);
        // what was closed counts no more
        fault("late 1 !!!!!p=1&!!!!!p=1|!!!!!p=1", -1);
        fault("late 1 ((((!p=1&!p=1)&!p=1)&(p=1)))", -1);
        fault("late 1 ((((!p=1&!!p=1))))", 17);
        fault("late 1 !((p=1))&!!!(((p=1)))", 21);
    }

    private static void clauseFaults() {
        String nine = "";
        for (int i = 0; i < 9; i++) nine += "step " + i + ";";
        fault(nine + "step 9", -1);
        fault(nine + "step 9;", 69);
        fault(nine + "step 9;step 1", 69);
        fault(nine, 63);
    }

    private static void showMeaning() {
        FieldBand x = withPlayers("loud 1 p=1;loud 2 r>0&c<3|v=9;loud 4 !k=2;loud 8 !(p=1|p=2);loud 16 p=0|p=1&p=2",
            0, 0, 0, 2, 1, 10, 6, 9, 63);
        due("of(0, 3)", x.of(0, 3), 1 + 4 + 8 + 16);
        due("of(1, 3)", x.of(1, 3), 1 + 1 + 2);
        due("of(2, 3)", x.of(2, 3), 1 + 2 + 4);
        x = withPlayers("late 1 p<1;late 2 p>1;late 4 c=7&r=7;late 8 !!p=1;late 16 k>5;late 32 v<9&(p=0|p=2)",
            0, 0, 0, 2, 1, 10, 6, 9, 63);
        due("of(0, 4)", x.of(0, 4), 1 + 32);
        due("of(1, 4)", x.of(1, 4), 8);
        due("of(2, 4)", x.of(2, 4), 2 + 4 + 16);
        due("show without CLAUSES of late", show(x, "beat 1"), 1);
        due("of(2, 4)", x.of(2, 4), 0);
    }

    private static void told() {
        promise = 4;
        FieldBand x = withShow("speed 4;beat 20;step 3;speed 5;beat 0;step 0");
        due("told(0)", x.told(0), 5);
        due("told(1)", x.told(1), 1);
        due("told(2)", x.told(2), 1);
        for (int what : new int[] {-1, 3, MIN, MAX}) due("told(" + what + ")", x.told(what), FieldBand.NONE);
        due("show", show(x, "speed 0"), 1);
        due("told(0)", x.told(0), 0);
        due("told(1)", x.told(1), 50);
        due("told(2)", x.told(2), 2);
    }

    private static void player() {
        promise = 5;
        FieldBand x = new FieldBand();
        due("player(0, 0, 0)", x.player(0, 0, 0), 0);
        due("player(6, 9, 63)", x.player(6, 9, 63), 1);
        due("kind 7", x.player(7, 10, 0), FieldBand.NONE);
        due("kind -1", x.player(-1, 0, 5), FieldBand.NONE);
        due("dot 64", x.player(0, 10, 64), FieldBand.NONE);
        due("dot -1", x.player(0, 0, -1), FieldBand.NONE);
        due("v 10 ahead of STATE", x.player(0, 10, 0), FieldBand.BAD);
        due("v -1", x.player(0, -1, 5), FieldBand.BAD);
        due("another one is there", x.player(0, 0, 63), FieldBand.STATE);
        due("count(0)", x.count(0), 2);
        due("on THE DRUM's DOT", x.player(3, 1, 60), 2);
        for (int i = 3; i < 10; i++) due("player " + i, x.player(1, 0, i), i);
        due("STATE ahead of FULL", x.player(1, 0, 9), FieldBand.STATE);
        due("eleventh", x.player(1, 0, 10), FieldBand.FULL);
        due("count(0)", x.count(0), 10);
    }

    private static void of() {
        promise = 6;
        FieldBand x = withPlayers("loud 6 p=0;late 7 p=0", 4, 5, 36);
        int[] want = {4, 5, 36, 7, 7, 2};
        for (int what = 0; what < 6; what++) due("of(0, " + what + ")", x.of(0, what), want[what]);
        for (int bad : new int[] {-1, 6, MIN, MAX}) due("of(0, " + bad + ")", x.of(0, bad), -1001);
        for (int bad : new int[] {-1, 1, MIN, MAX}) due("of(" + bad + ", 0)", x.of(bad, 0), -1001);
    }

    private static void playsByKind() {
        // THE DRUM on 60: row 7, column 4
        FieldBand x = withPlayers("", 0, 0, 0, 1, 0, 1, 4, 9, 2, 6, 3, 3, 2, 0, 4, 5, 0, 13, 3, 0, 6);
        int[] alone = {21, 0, -9, 9, 21, 18 + 3, 0};
        for (int p = 0; p < alone.length; p++) due("of(" + p + ", 5) alone", x.of(p, 5), alone[p]);
        // one column: LISTENING 0 in row 0, BACKWARD 1 in row 2, FORWARD 2 in row 3, FORWARD 3 in row 5,
        // ECHOED 4 in row 6, EYED 5 in row 7
        x = withPlayers("speed 2;late 1 !p=5;late 3 p=5", 0, 0, 0, 2, 0, 16, 3, 0, 24, 3, 0, 40, 5, 0, 48, 1, 0, 56);
        due("LISTENING", x.of(0, 5), 1 + 2 * 7);
        due("EYED", x.of(5, 5), 3);
        due("ECHOED behind which is EYED", x.of(4, 5), 1 + 3 + 2 * 1 + 2 * 6);
        due("FORWARD before which is BACKWARD", x.of(2, 5), 1 + 2 * 4);
        due("FORWARD before which is FORWARD", x.of(3, 5), 1 + 9 + 2 * 2);
        due("BACKWARD behind which is FORWARD", x.of(1, 5), 1 + 9 + 2 * 1);
        // FORWARD before which is an ECHOED one, and before which is a COUNTED one
        x = withPlayers("speed 1", 5, 0, 0, 3, 0, 8, 6, 7, 1, 3, 0, 25);
        due("ECHOED", x.of(0, 5), 6 + 1 + 0);
        due("FORWARD before which is ECHOED", x.of(1, 5), 6);
        due("COUNTED", x.of(2, 5), 14);
        due("FORWARD before which is COUNTED", x.of(3, 5), 14 + 3);
        // all of a column BACKWARD: from one to the next
        x = withPlayers("speed 1;late 1 v=0", 2, 0, 0, 2, 0, 8, 2, 0, 16, 2, 0, 24, 2, 0, 32, 2, 0, 40, 2, 0, 48, 2, 0, 56);
        due("the row of BACKWARD ones", x.of(0, 5), 8 + 7 + 4);
    }

    private static void drum() {
        promise = 7;
        FieldBand x = withPlayers("", 0, 0, 0);
        due("drum(0)", x.drum(0), 60);
        due("of(0, 5)", x.of(0, 5), 0);
        for (int bad : new int[] {-1, 64, MIN, MAX}) due("drum(" + bad + ")", x.drum(bad), FieldBand.NONE);
        due("drum(63)", x.drum(63), 0);
        due("drum(63)", x.drum(63), 63);
        due("of(0, 5)", x.of(0, 5), 21);
        due("count(6)", x.count(6), 63);
    }

    private static void put() {
        promise = 8;
        FieldBand x = withPlayers("", 0, 0, 5, 0, 0, 6);
        due("put(0, 7)", x.put(0, 7), 5);
        due("put(0, 7)", x.put(0, 7), 7);
        due("put(0, 6)", x.put(0, 6), FieldBand.STATE);
        due("put(1, 5)", x.put(1, 5), 6);
        due("put(0, 60)", x.put(0, 60), 7);
        for (int bad : new int[] {-1, 64, MIN, MAX}) due("put(0, " + bad + ")", x.put(0, bad), FieldBand.NONE);
        for (int bad : new int[] {-1, 2, MIN, MAX}) due("put(" + bad + ", 5)", x.put(bad, 5), FieldBand.NONE);
        due("of(0, 2)", x.of(0, 2), 60);
        due("of(1, 2)", x.of(1, 2), 5);
    }

    private static void heard() {
        promise = 9;
        FieldBand x = withPlayers("", 1, 0, 0, 0, 0, 63, 4, 9, 2);
        due("heard(0, 0)", x.heard(0, 0), 3);
        due("heard(1, 0)", x.heard(1, 0), 3);
        due("heard(7, 0)", x.heard(7, 0), 21);
        due("heard(7, 1)", x.heard(7, 1), 9 + 24);
        due("heard(2, 2)", x.heard(2, 2), -6);
        for (int bad : new int[] {-1, 8, MIN, MAX}) due("heard(" + bad + ", 0)", x.heard(bad, 0), -1001);
        for (int bad : new int[] {-1, 3, MIN, MAX}) due("heard(0, " + bad + ")", x.heard(0, bad), -1001);
    }

    private static void spread() {
        promise = 10;
        FieldBand x = new FieldBand();
        due("nobody", x.spread(0, 0), 0);
        due("nobody together", x.spread(0, 50), 0);
        // HEARD at SEAT 0: 3, 6, 9 and 24; LOUD 1, 5, 5, 3
        x = withPlayers("loud 4 p=1|p=2;loud 2 p=3", 1, 0, 0, 1, 0, 8, 1, 0, 16, 1, 0, 56);
        due("spread(0, 0)", x.spread(0, 0), 21);
        due("spread(0, 1)", x.spread(0, 1), 5);
        due("spread(0, 3)", x.spread(0, 3), 5);
        due("spread(0, 4)", x.spread(0, 4), 11);
        due("spread(0, 18)", x.spread(0, 18), 11);
        due("spread(0, 19)", x.spread(0, 19), 14);
        due("spread(7, 0)", x.spread(7, 0), 3);
        for (int bad : new int[] {-1, 51, MIN, MAX}) due("spread(0, " + bad + ")", x.spread(0, bad), FieldBand.NONE);
        for (int bad : new int[] {-1, 8, MIN, MAX}) due("spread(" + bad + ", 0)", x.spread(bad, 0), FieldBand.NONE);
    }

    private static void back() {
        promise = 11;
        // THE DRUM on 56 is HEARD at SEAT 0 at 24; as KIND 0 on 0: 21 + 3; on 7: 21 + 21; on 63: 21 + 24
        FieldBand x = withPlayers("late 2 k=0;late 50 k=1", 1, 9, 0, 4, 9, 7, 2, 0, 63);
        x.drum(56);
        due("back(0, 1)", x.back(0, 1), 0);
        due("back(0, 2)", x.back(0, 2), 1);
        due("back(0, 19)", x.back(0, 19), 1);
        due("back(0, 20)", x.back(0, 20), 3);
        due("back(0, 22)", x.back(0, 22), 3);
        due("back(0, 23)", x.back(0, 23), 7);
        due("back(0, 99)", x.back(0, 99), 7);
        due("nothing changes", x.of(0, 0), 1);
        for (int bad : new int[] {-1, 100, MIN, MAX}) due("back(0, " + bad + ")", x.back(0, bad), FieldBand.BAD);
        for (int bad : new int[] {-1, 8, MIN, MAX}) due("back(" + bad + ", -1)", x.back(bad, -1), FieldBand.NONE);
        due("nobody", new FieldBand().back(0, 99), 0);
    }

    private static void best() {
        promise = 12;
        FieldBand x = new FieldBand();
        due("nobody", x.best(0), 0);
        due("nobody's sum", x.best(1), 0);
        // one PLAYER: no SPREAD anywhere, so the least DOT without a PLAYER
        x = withPlayers("", 0, 0, 0);
        due("best(0)", x.best(0), 1);
        due("best(1)", x.best(1), 0);
        // LISTENING ones on 0 and 56: HEARD together, if THE DRUM is nearer to 56 by as much as a SEAT is to 0
        x = withPlayers("speed 1", 0, 0, 0, 0, 0, 56);
        int sum = MAX;
        int best = -1;
        for (int dot = 0; dot < 64; dot++) {
            x.drum(dot);
            int here = 0;
            for (int seat = 0; seat < 8; seat++) here += x.spread(seat, 0);
            if (dot != 0 && dot != 56 && here < sum) {
                sum = here;
                best = dot;
            }
        }
        due("best(0)", x.best(0), best);
        due("best(1)", x.best(1), sum);
        due("THE DRUM stays", x.count(6), 63);
        for (int bad : new int[] {-1, 2, MIN, MAX}) due("best(" + bad + ")", x.best(bad), FieldBand.NONE);
    }

    private static void early() {
        promise = 13;
        FieldBand x = withPlayers("", 1, 0, 0, 1, 0, 56, 4, 9, 3);
        due("early(2, 3)", x.early(2, 3), 0);
        due("early(0, 3)", x.early(0, 3), 9 + 6);
        due("early(1, 3)", x.early(1, 3), 24 + 6);
        due("early(2, 7)", x.early(2, 7), 0);
        x = withPlayers("", 4, 9, 0, 1, 0, 1);
        due("the first is the earliest", x.early(0, 0), 0);
        due("the first is the earliest", x.early(1, 0), 9);
        for (int bad : new int[] {-1, 3, MIN, MAX}) due("early(" + bad + ", 0)", x.early(bad, 0), FieldBand.NONE);
        for (int bad : new int[] {-1, 8, MIN, MAX}) due("early(0, " + bad + ")", x.early(0, bad), FieldBand.NONE);
    }

    private static void beats() {
        promise = 14;
        // SPREAD 21 at SEAT 0
        due("beat 7", withPlayers("beat 7", 1, 0, 0, 1, 0, 56).beats(0), 3);
        due("beat 8", withPlayers("beat 8", 1, 0, 0, 1, 0, 56).beats(0), 2);
        due("beat 0", withPlayers("beat 0", 1, 0, 0, 1, 0, 56).beats(0), 21);
        due("without", withPlayers("", 1, 0, 0, 1, 0, 56).beats(0), 0);
        FieldBand x = new FieldBand();
        due("nobody", x.beats(7), 0);
        for (int bad : new int[] {-1, 8, MIN, MAX}) due("beats(" + bad + ")", x.beats(bad), FieldBand.NONE);
    }

    private static void form() {
        promise = 15;
        FieldBand x = new FieldBand();
        formOf(x, 0, 63, 5);
        due("form(63)", x.form(63), FieldBand.STATE);
        for (int bad : new int[] {-2, 64, MIN, MAX}) due("form(" + bad + ")", x.form(bad), FieldBand.NONE);
        due("count(2)", x.count(2), 3);
        for (int i = 4; i <= 10; i++) due("form", x.form(10 + i), i);
        due("STATE ahead of FULL", x.form(5), FieldBand.STATE);
        due("NONE ahead of FULL", x.form(64), FieldBand.NONE);
        due("eleventh", x.form(1), FieldBand.FULL);
        due("form(-1)", x.form(-1), 0);
        due("count(2)", x.count(2), 0);
        due("form(63)", x.form(63), 1);
    }

    private static void way() {
        promise = 16;
        FieldBand x = new FieldBand();
        due("nobody's way(-1)", x.way(-1), 0);
        due("nobody's way(-2)", x.way(-2), 0);
        due("nobody's way(0)", x.way(0), FieldBand.NONE);
        // the greatest FAR first: 2 and 2, though 3 and 0 have the lesser sum and the first row
        x = withPlayers("", 0, 0, 0, 0, 0, 2);
        due("-5", x.way(0), -5);
        due("NONE ahead of -5", x.way(2), FieldBand.NONE);
        formOf(x, 19, 2, 0);
        due("way(-1)", x.way(-1), 2);
        due("way(-2)", x.way(-2), 4);
        due("way(0)", x.way(0), 1);
        due("way(1)", x.way(1), 0);
        for (int bad : new int[] {-3, 2, MIN, MAX}) due("way(" + bad + ")", x.way(bad), FieldBand.NONE);
        // then the sum: 3 and 0, though 3 and 3 have the first row
        x = withPlayers("", 0, 0, 0, 0, 0, 3);
        formOf(x, 3, 27);
        due("way(-1)", x.way(-1), 3);
        due("way(-2)", x.way(-2), 3);
        due("way(0)", x.way(0), 1);
        due("way(1)", x.way(1), 0);
        // then the first row: each is 3 from each
        x = withPlayers("", 0, 0, 0, 0, 0, 24);
        formOf(x, 27, 3);
        due("way(-2)", x.way(-2), 6);
        due("way(0)", x.way(0), 0);
        due("way(1)", x.way(1), 1);
        // six PLAYERS, then seven, then more than DOTS
        x = withPlayers("", 0, 0, 0, 0, 0, 1, 0, 0, 2, 0, 0, 3, 0, 0, 4, 0, 0, 5);
        formOf(x, 5, 4, 3, 2, 1, 0, 63);
        for (int p = 0; p < 6; p++) due("way(" + p + ")", x.way(p), 5 - p);
        due("way(-2)", x.way(-2), 0);
        x.player(0, 0, 6);
        due("-9", x.way(0), -9);
        due("NONE ahead of -9", x.way(7), FieldBand.NONE);
        x.player(0, 0, 7);
        due("-5 ahead of -9", x.way(0), -5);
    }

    private static void counts() {
        promise = 17;
        due("nobody", new FieldBand().counts(), 0);
        int[] want = {7, 7, 4, 3, 2, 2, 2, 1};
        for (int step = 0; step < want.length; step++) {
            FieldBand x = withPlayers("step " + step, 0, 0, 0);
            due("-5", x.counts(), -5);
            formOf(x, 63);
            due("counts() by " + step, x.counts(), want[step]);
        }
        FieldBand x = withPlayers("", 0, 0, 0, 0, 0, 1, 0, 0, 2, 0, 0, 3, 0, 0, 4, 0, 0, 5, 0, 0, 6);
        due("-5 ahead of -9", x.counts(), -5);
        formOf(x, 0, 1, 2, 3, 4, 5, 6);
        due("-9", x.counts(), -9);
    }

    private static void meet() {
        promise = 18;
        due("nobody", new FieldBand().meet(), 0);
        // 0 -> 18, 16 -> 2, 2 -> 16, 18 -> 0 all through 9, where 9 stays
        FieldBand x = withPlayers("", 0, 0, 0, 0, 0, 16, 0, 0, 2, 0, 0, 18, 0, 0, 9);
        formOf(x, 18, 2, 16, 0);
        due("-5", x.meet(), -5);
        x.form(9);
        due("meet()", x.meet(), 10);
        formOf(x, 18, 2, 16, 0, 10);
        due("half a DOT away", x.meet(), 6);
        // rows alike alone, columns alike alone
        x = withPlayers("", 0, 0, 0, 0, 0, 1, 0, 0, 8);
        formOf(x, 2, 3, 10);
        due("meet()", x.meet(), 0);
    }

    private static void hard() {
        promise = 19;
        due("nobody", new FieldBand().hard(0), 0);
        due("nobody's FAR", new FieldBand().hard(1), 0);
        FieldBand x = withPlayers("", 0, 0, 0, 0, 0, 1, 0, 0, 2);
        due("-5", x.hard(0), -5);
        due("-5", x.hard(1), -5);
        due("NONE ahead of -5", x.hard(2), FieldBand.NONE);
        formOf(x, 24, 9, 5);
        due("hard(0)", x.hard(0), 5);
        due("hard(1)", x.hard(1), 3);
        formOf(x, 8, 17, 26);
        due("the farthest last", x.hard(0), 4);
        due("the farthest last", x.hard(1), 3);
        formOf(x, 0, 1, 2);
        due("all stay", x.hard(0), 7);
        due("all stay", x.hard(1), 0);
        for (int bad : new int[] {-1, 2, MIN, MAX}) due("hard(" + bad + ")", x.hard(bad), FieldBand.NONE);
    }

    private static void march() {
        promise = 20;
        due("nobody", new FieldBand().march(), 0);
        FieldBand x = withPlayers("", 0, 0, 0, 0, 0, 1, 0, 0, 2);
        formOf(x, 1, 0);
        due("STATE", x.march(), FieldBand.STATE);
        due("of(0, 2)", x.of(0, 2), 0);
        x.form(2);
        x.form(40);
        due("march()", x.march(), 2);
        due("of(0, 2)", x.of(0, 2), 1);
        due("of(1, 2)", x.of(1, 2), 0);
        due("of(2, 2)", x.of(2, 2), 2);
        due("again", x.march(), 0);
        due("the FORM stays", x.count(2), 4);
    }

    private static void seen() {
        promise = 21;
        FieldBand x = new FieldBand();
        for (int i = 1; i <= 10; i++) due("seen(0)", x.seen(i < 6 ? 0 : 63), i);
        due("seen(0)", x.seen(0), FieldBand.FULL);
        for (int bad : new int[] {-2, 64, MIN, MAX}) due("seen(" + bad + ")", x.seen(bad), FieldBand.NONE);
        due("count(3)", x.count(3), 10);
        due("seen(-1)", x.seen(-1), 0);
        due("seen(-1)", x.seen(-1), 0);
        due("seen(5)", x.seen(5), 1);
    }

    private static void off() {
        promise = 22;
        FieldBand x = withPlayers("", 0, 0, 0, 0, 0, 1, 0, 0, 2, 0, 0, 3);
        due("none told", x.off(0), 0);
        due("none told", x.off(1), -5);
        x.seen(0);
        due("nobody is OFF", x.off(0), 0);
        due("nobody is OFF", x.off(1), -5);
        x.seen(17);
        x.seen(0);
        due("off(0)", x.off(0), 2);
        due("off(1)", x.off(1), 1);
        x.seen(0);
        due("off(0)", x.off(0), 3);
        due("off(1)", x.off(1), 3);
        x.seen(63);
        due("for nobody", x.off(0), 3);
        for (int bad : new int[] {-1, 2, MIN, MAX}) due("off(" + bad + ")", x.off(bad), FieldBand.NONE);
    }

    private static void whom() {
        promise = 23;
        // on 0 alone, THE DRUM on 60: at SEAT 0 as LISTENING, BACKWARD, ECHOED 21 + 3, else 3; AHEAD 3 - 2
        FieldBand x = withPlayers("", 1, 2, 0);
        due("whom(0, 0, 24)", x.whom(0, 0, 24), 1 | 4 | 32);
        due("whom(0, 0, 3)", x.whom(0, 0, 3), 2 | 8 | 64);
        due("whom(0, 0, 1)", x.whom(0, 0, 1), 16);
        due("whom(0, 0, 2)", x.whom(0, 0, 2), 0);
        due("nothing changes", x.of(0, 0), 1);
        // the KIND told is the one that SLIP looks at
        x = withPlayers("late 5 k=1", 0, 2, 0);
        due("whom(0, 0, 8)", x.whom(0, 0, 8), 2);
        // a FORWARD one behind it looks at the KIND told, too
        x = withPlayers("speed 1", 1, 0, 0, 3, 0, 8);
        due("whom(0, 0, 8)", x.whom(0, 0, 8), 1 | 4 | 32);
        x = withPlayers("late 99 p<9;late 99 p<9;late 99 p<9;late 99 p<9;late 99 p<9", 1, 0, 0);
        due("whom(0, 0, 498)", x.whom(0, 0, 498), 2 | 8 | 16 | 64);
        due("whom(0, 0, 999)", x.whom(0, 0, 999), 0);
        for (int bad : new int[] {-1, 1000, MIN, MAX}) due("whom(0, 0, " + bad + ")", x.whom(0, 0, bad), FieldBand.BAD);
        for (int bad : new int[] {-1, 1, MIN, MAX}) due("whom(" + bad + ", 0, -1)", x.whom(bad, 0, -1), FieldBand.NONE);
        for (int bad : new int[] {-1, 8, MIN, MAX}) due("whom(0, " + bad + ", -1)", x.whom(0, bad, -1), FieldBand.NONE);
    }

    private static void out() {
        promise = 24;
        due("nobody", new FieldBand().out(), -5);
        due("one", withPlayers("", 0, 0, 0).out(), -5);
        due("two", withPlayers("", 0, 0, 0, 0, 0, 1).out(), 0);
        due("the late one", withPlayers("late 50 p=1", 1, 0, 0, 1, 0, 1, 1, 0, 2).out(), 1);
        // if 1 became 0 without 0, or 2 became 1 without 1, another one would be late
        due("numbers stay", withPlayers("speed 0;late 9 p=1", 1, 0, 0, 1, 0, 1, 1, 0, 2).out(), 1);
        due("numbers stay", withPlayers("speed 0;late 9 p=2", 1, 0, 0, 1, 0, 1, 1, 0, 2).out(), 2);
        // 0 listens back to 1, that is late: without 1 nobody is
        due("whom 0 listened to", withPlayers("speed 0;late 50 p=1", 2, 0, 0, 1, 0, 8, 1, 0, 1, 1, 0, 2).out(), 1);
    }

    private static void act(FieldBand x, int p, int act, int n, int want, int... bodies) {
        promise = 25;
        due("act(" + p + ", " + act + ", " + n + ")", x.act(p, act, n), want);
        promise = 26;
        due("bodies that ran", x.count(5), bodies.length);
        for (int i = 0; i < bodies.length; i++) due("trace(" + i + ")", x.trace(i), bodies[i]);
        due("trace's end", x.trace(bodies.length), FieldBand.NONE);
        due("trace(-1)", x.trace(-1), FieldBand.NONE);
    }

    private static void act() {
        // PLAYER i is of KIND i, with v = i + 1
        FieldBand x = withPlayers("", 0, 1, 0, 1, 2, 1, 2, 3, 2, 3, 4, 3, 4, 5, 4, 5, 6, 5, 6, 7, 6);
        act(x, 0, 0, 5, 5, 1);
        act(x, 0, 1, 5, 4, 2, 1);
        act(x, 0, 2, 5, 8, 3, 2, 1);
        act(x, 1, 0, 5, 16, 11, 1);
        act(x, 1, 1, 5, 14, 2, 11, 1);
        act(x, 1, 2, 5, 28, 3, 2, 11, 1);
        act(x, 2, 0, 5, 7, 1);
        act(x, 2, 1, 5, -4, 21, 2, 1);
        act(x, 2, 2, 5, -8, 3, 21, 2, 1);
        act(x, 3, 0, 5, 8, 1);
        act(x, 3, 1, 5, 4, 2, 1);
        act(x, 3, 2, 5, 8 ^ 7, 31, 3, 2, 1);
        act(x, 4, 0, 5, 19, 11, 1);
        act(x, 4, 1, 5, 14, 2, 11, 1);
        act(x, 4, 2, 5, 22 + 10, 41, 3, 2, 11, 1, 11, 1);
        act(x, 5, 0, 5, 10 ^ 5, 51, 1);
        act(x, 5, 1, 5, -((10 ^ 5) - 6), 21, 2, 51, 1);
        act(x, 5, 2, 5, -2 * ((10 ^ 5) - 6), 3, 21, 2, 51, 1);
        act(x, 6, 0, 5, 11, 1);
        act(x, 6, 1, 5, 11, 61, 2, 1);
        act(x, 6, 2, 5, 22 ^ 7, 31, 3, 61, 2, 1);
        act(x, 1, 0, MAX, MAX * 3 + 1, 11, 1);
        act(x, 3, 0, MAX, MAX + 3, 1);
        act(x, 0, 2, MIN, (MIN - 1) * 2, 3, 2, 1);
        for (int bad : new int[] {-1, 7, MIN, MAX}) {
            x.act(4, 2, 5);
            act(x, bad, 0, 5, 0);
        }
        for (int bad : new int[] {-1, 3, MIN, MAX}) {
            x.act(4, 2, 5);
            act(x, 0, bad, 5, 0);
        }
    }

    private static void trace() {
        promise = 26;
        FieldBand x = withPlayers("", 4, 9, 0);
        x.act(0, 2, 1);
        due("trace(0)", x.trace(0), 41);
        due("trace(6)", x.trace(6), 1);
        for (int bad : new int[] {-1, 7, 20, MIN, MAX}) due("trace(" + bad + ")", x.trace(bad), FieldBand.NONE);
        x.act(0, 0, 1);
        due("the latest act()", x.trace(0), 11);
        due("the latest act()", x.trace(2), FieldBand.NONE);
    }

    private static void as() {
        promise = 27;
        FieldBand x = withPlayers("", 0, 0, 0, 1, 1, 1, 2, 2, 2, 3, 3, 3, 4, 4, 4, 5, 5, 5, 6, 6, 6);
        int[] above = {1, 1 | 2, 1 | 4, 1 | 8, 1 | 2 | 16, 1 | 4 | 32, 1 | 8 | 64};
        for (int p = 0; p < 7; p++) {
            for (int k = 0; k < 7; k++) due("as(" + p + ", " + k + ")", x.as(p, k), (above[p] >> k & 1) == 1 ? p : -6);
        }
        for (int bad : new int[] {-1, 7, MIN, MAX}) {
            due("as(" + bad + ", 0)", x.as(bad, 0), FieldBand.NONE);
            due("as(0, " + bad + ")", x.as(0, bad), FieldBand.NONE);
        }
    }

    private static void image() {
        promise = 28;
        FieldBand x = new FieldBand();
        due("nobody", x.image(), 0);
        x.player(0, 0, 0);
        due("image()", x.image(), 1);
        x.player(0, 0, 1);
        due("undo() to the newest", x.undo(), 1);
    }

    private static void undo() {
        promise = 29;
        FieldBand x = withPlayers("speed 7;late 2 p=0", 4, 3, 9);
        due("STATE", x.undo(), FieldBand.STATE);
        formOf(x, 1, 2);
        x.seen(3);
        x.drum(11);
        feedText(x, "beat");
        x.image();
        for (int round = 0; round < 2; round++) {
            x.put(0, 10);
            x.player(5, 1, 9);
            formOf(x, 7, 8, 9);
            x.seen(-1);
            x.seen(9);
            x.drum(0);
            feedText(x, " 9");
            due("show " + round, x.show(), 1);
            due("show " + round, show(x, "speed 1"), 2);
            x.act(0, 0, 1);
            due("undo()", x.undo(), 1);
            int[] counts = {1, 1, 2, 1, 4, 2, 11};
            for (int i = 0; i < counts.length; i++) due("count(" + i + ")", x.count(i), counts[i]);
            due("THE TRACE stays", x.trace(0), 11);
            int[] of = {4, 3, 9, 1, 2, -1};
            for (int i = 0; i < of.length; i++) due("of(0, " + i + ")", x.of(0, i), of[i]);
            due("told(0)", x.told(0), 7);
            due("told(1)", x.told(1), 50);
            due("the FORM", x.form(2), FieldBand.STATE);
            due("the film", x.off(0), 1);
        }
    }

    private static void count() {
        promise = 30;
        FieldBand x = withPlayers("speed 7", 4, 3, 9, 0, 0, 1);
        formOf(x, 1, 2, 3);
        for (int i = 0; i < 4; i++) x.seen(0);
        feedText(x, "12345");
        x.act(0, 2, 0);
        x.drum(33);
        int[] counts = {2, 1, 3, 4, 5, 7, 33};
        for (int i = 0; i < counts.length; i++) due("count(" + i + ")", x.count(i), counts[i]);
        for (int bad : new int[] {-1, 7, MIN, MAX}) due("count(" + bad + ")", x.count(bad), FieldBand.NONE);
    }
}
