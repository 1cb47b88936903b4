import java.util.List;

/**
 * "REFUSALS, of several the first one told ... They change nothing": each refused call, with the answer that is due,
 * on each of several fields; a field that was refused something answers all as one that was not asked.
 */
public final class RefusalsTest {
    private static int wrong = 0;

    private static final int NONE = FieldBand.NONE, BAD = FieldBand.BAD, STATE = FieldBand.STATE, FULL = FieldBand.FULL;
    private static final int MIN = Integer.MIN_VALUE, MAX = Integer.MAX_VALUE;
    private static final int NEW = 0, FEW = 1, SEVEN = 2, CROWDED = 3, FIELDS = 4;
    private static final String[] NAMES = {"a new field", "a field with few", "a field with seven", "a crowded field"};

    interface Call {
        int on(FieldBand x);
    }

    public static void main(String[] args) {
        fieldsAreAsNamed();
        tapeAndShow();
        player();
        playerInOrder();
        put();
        numbersOfWhat();
        seatsAndPlayers();
        inOrder();
        formAndSeen();
        wayAndItsLike();
        undo();
        act();
        asking();
        if (wrong != 0) System.exit(1);
    }

    private static void report(String text) {
        wrong++;
        System.out.println(text);
    }

    /** FEW: DOTS and bytes are left, and an image of another field; SEVEN: too many for a WAY; CROWDED: all is full. */
    private static FieldBand make(int field) {
        FieldBand x = new FieldBand();
        if (field == NEW) return x;
        Edges.show(x, "speed 2;step 1;late 4 k=4|p=1");
        players(x, 1);
        Edges.feed(x, "step 8");
        dots(x, 2);
        x.image();
        x.drum(12);
        int many = field == FEW ? 3 : field == SEVEN ? 7 : 10;
        x.form(-1);
        x.seen(-1);
        x.show();
        if (field == CROWDED) {
            for (int i = 2; i < 5; i++) Edges.show(x, "beat 9;loud " + i + " r<1");
            for (int i = 0; i < 15; i++) Edges.feed(x, "speed 1;");
        } else {
            Edges.feed(x, "speed 5;late 1 p<9");
        }
        players(x, many);
        dots(x, field == FEW ? 4 : many);
        x.act(0, 2, 1);
        return x;
    }

    /** KIND 4, 5, 6, 0, 1 .. on DOTS 0, 9, 18 .. of a slope, till there are so many. */
    private static void players(FieldBand x, int many) {
        for (int p = x.count(0); p < many; p++) x.player((p + 4) % 7, p, dotOf(p));
    }

    private static int dotOf(int p) {
        return p < 8 ? 9 * p : 7 * (p - 6);
    }

    private static void dots(FieldBand x, int many) {
        for (int i = 0; i < many; i++) {
            x.form(63 - 3 * i);
            x.seen(i % 2 == 0 ? dotOf(i) : 1);
        }
    }

    private static void fieldsAreAsNamed() {
        int[][] counts = {{0, 0, 0, 0, 0, 0, 60}, {3, 2, 4, 4, 18, 7, 12}, {7, 2, 7, 7, 18, 7, 12}, {10, 5, 10, 10, 120, 7, 12}};
        for (int field = 0; field < FIELDS; field++) {
            FieldBand x = make(field);
            for (int what = 0; what < 7; what++) {
                int got = x.count(what);
                if (got != counts[field][what]) report(NAMES[field] + ": count(" + what + ") is " + got);
            }
        }
        // what differs in one thing alone is seen to differ
        Call[] changes = {x -> x.drum(13), x -> x.put(0, 8), x -> x.form(2), x -> x.form(-1), x -> x.seen(2), x -> x.seen(-1),
            x -> x.feed('x', 1), x -> x.show(), x -> x.player(0, 0, 8), x -> x.image(), x -> x.undo(), x -> x.act(0, 0, 1), x -> x.march()};
        List<Integer> before = Probe.spend(make(FEW));
        for (int i = 0; i < changes.length; i++) {
            FieldBand x = make(FEW);
            changes[i].on(x);
            if (Probe.spend(x).equals(before)) report("change " + i + " is not seen");
        }
    }

    /** The answer, and that nothing has changed. */
    private static void due(int field, String name, Call call, int want) {
        FieldBand x = make(field);
        int got = call.on(x);
        if (got != want) report(NAMES[field] + ": " + name + " answered " + got + ", due is " + want);
        if (!Probe.spend(x).equals(Probe.spend(make(field)))) report(NAMES[field] + ": " + name + " has changed it");
    }

    private static void dueOnAll(String name, Call call, int want) {
        for (int field = 0; field < FIELDS; field++) due(field, name, call, want);
    }

    private static void dueOnAllWithPlayers(String name, Call call, int want) {
        for (int field = FEW; field < FIELDS; field++) due(field, name, call, want);
    }

    private static int[] beside(int most) {
        return new int[] {-1, most + 1, MIN, MAX};
    }

    private static void tapeAndShow() {
        for (int n : new int[] {0, 9, -1, MIN, MAX}) dueOnAll("feed of " + n, x -> x.feed('x', n), BAD);
        for (int n = 1; n <= 8; n++) {
            int bytes = n;
            due(CROWDED, "feed of " + n, x -> x.feed('x', bytes), FULL);
        }
        due(CROWDED, "show()", x -> x.show(), FULL);
    }

    private static void player() {
        for (int kind : beside(6)) dueOnAll("player of KIND " + kind, x -> x.player(kind, 0, 8), NONE);
        for (int dot : beside(63)) dueOnAll("player on " + dot, x -> x.player(0, 0, dot), NONE);
        for (int v : beside(9)) dueOnAll("player with v " + v, x -> x.player(0, v, 8), BAD);
        dueOnAllWithPlayers("player on another one's DOT", x -> x.player(0, 0, 9), STATE);
        due(CROWDED, "an eleventh player", x -> x.player(0, 0, 8), FULL);
    }

    private static void playerInOrder() {
        dueOnAll("KIND ahead of v", x -> x.player(7, 10, 8), NONE);
        dueOnAll("DOT ahead of v", x -> x.player(0, 10, 64), NONE);
        dueOnAll("KIND ahead of STATE, FULL", x -> x.player(-1, 0, 9), NONE);
        dueOnAll("v ahead of STATE, FULL", x -> x.player(0, -1, 9), BAD);
        due(CROWDED, "KIND ahead of FULL", x -> x.player(7, 0, 8), NONE);
        due(CROWDED, "DOT ahead of FULL", x -> x.player(0, 0, -1), NONE);
        due(CROWDED, "v ahead of FULL", x -> x.player(0, 10, 8), BAD);
        due(CROWDED, "STATE ahead of FULL", x -> x.player(0, 0, 0), STATE);
    }

    private static void put() {
        for (int dot : beside(63)) {
            dueOnAll("drum to " + dot, x -> x.drum(dot), NONE);
            dueOnAll("put to " + dot, x -> x.put(0, dot), NONE);
        }
        for (int p : beside(9)) {
            dueOnAll("put of " + p, x -> x.put(p, 8), NONE);
            dueOnAll("put of " + p + " to another one's DOT", x -> x.put(p, 9), NONE);
        }
        due(FEW, "put of 3", x -> x.put(3, 8), NONE);
        due(SEVEN, "put of 7", x -> x.put(7, 8), NONE);
        dueOnAllWithPlayers("put to another one's DOT", x -> x.put(0, 9), STATE);
        dueOnAllWithPlayers("put to another one's DOT", x -> x.put(2, 0), STATE);
        dueOnAllWithPlayers("put to its own DOT", x -> x.put(2, 18), 18);
    }

    private static void numbersOfWhat() {
        for (int what : beside(2)) dueOnAll("told(" + what + ")", x -> x.told(what), NONE);
        for (int what : beside(5)) dueOnAll("of(0, " + what + ")", x -> x.of(0, what), -1001);
        for (int what : beside(50)) dueOnAll("spread(0, " + what + ")", x -> x.spread(0, what), NONE);
        for (int what : beside(1)) {
            dueOnAll("best(" + what + ")", x -> x.best(what), NONE);
            dueOnAll("hard(" + what + ")", x -> x.hard(what), NONE);
            dueOnAll("off(" + what + ")", x -> x.off(what), NONE);
        }
        for (int what : beside(6)) {
            dueOnAll("count(" + what + ")", x -> x.count(what), NONE);
            dueOnAll("as(0, " + what + ")", x -> x.as(0, what), NONE);
            dueOnAll("trace(" + what + ")", x -> x.trace(what), NONE);
        }
        due(NEW, "trace(0)", x -> x.trace(0), NONE);
    }

    private static void seatsAndPlayers() {
        for (int seat : beside(7)) {
            dueOnAll("heard(" + seat + ", 0)", x -> x.heard(seat, 0), -1001);
            dueOnAll("spread(" + seat + ", 0)", x -> x.spread(seat, 0), NONE);
            dueOnAll("back(" + seat + ", 0)", x -> x.back(seat, 0), NONE);
            dueOnAll("early(0, " + seat + ")", x -> x.early(0, seat), NONE);
            dueOnAll("beats(" + seat + ")", x -> x.beats(seat), NONE);
            dueOnAll("whom(0, " + seat + ", 0)", x -> x.whom(0, seat, 0), NONE);
        }
        int[] players = {0, 3, 7, 10};
        for (int field = 0; field < FIELDS; field++) {
            for (int p : beside(players[field] - 1)) {
                due(field, "of(" + p + ", 0)", x -> x.of(p, 0), -1001);
                due(field, "heard(0, " + p + ")", x -> x.heard(0, p), -1001);
                due(field, "early(" + p + ", 0)", x -> x.early(p, 0), NONE);
                due(field, "whom(" + p + ", 0, 0)", x -> x.whom(p, 0, 0), NONE);
                due(field, "as(" + p + ", 0)", x -> x.as(p, 0), NONE);
            }
        }
    }

    private static void inOrder() {
        for (int n : beside(99)) {
            dueOnAll("back(0, " + n + ")", x -> x.back(0, n), BAD);
            dueOnAll("back(8, " + n + ")", x -> x.back(8, n), NONE);
        }
        for (int h : beside(999)) {
            dueOnAllWithPlayers("whom(0, 0, " + h + ")", x -> x.whom(0, 0, h), BAD);
            dueOnAll("whom(10, 0, " + h + ")", x -> x.whom(10, 0, h), NONE);
            dueOnAll("whom(0, 8, " + h + ")", x -> x.whom(0, 8, h), NONE);
        }
    }

    private static void formAndSeen() {
        for (int dot : new int[] {-2, 64, MIN, MAX}) {
            dueOnAll("form(" + dot + ")", x -> x.form(dot), NONE);
            dueOnAll("seen(" + dot + ")", x -> x.seen(dot), NONE);
        }
        dueOnAllWithPlayers("form(63) again", x -> x.form(63), STATE);
        dueOnAllWithPlayers("form(54) again", x -> x.form(54), STATE);
        due(CROWDED, "form(0)", x -> x.form(0), FULL);
        due(CROWDED, "form(36) again", x -> x.form(36), STATE);
        due(CROWDED, "seen(0)", x -> x.seen(0), FULL);
    }

    private static void wayAndItsLike() {
        int[] players = {0, 3, 7, 10};
        for (int field = 0; field < FIELDS; field++) {
            for (int k : new int[] {-3, players[field], MIN, MAX}) due(field, "way(" + k + ")", x -> x.way(k), NONE);
        }
        for (int field = SEVEN; field < FIELDS; field++) {
            for (int k = -2; k < players[field]; k++) {
                int place = k;
                due(field, "way(" + k + ")", x -> x.way(place), -9);
            }
            due(field, "counts()", x -> x.counts(), -9);
        }
        due(NEW, "out()", x -> x.out(), -5);
        due(NEW, "off(1)", x -> x.off(1), -5);
        tooFewDots();
    }

    /** A field as it is, but for the FORM, that is empty. */
    private static void tooFewDots() {
        for (int field = FEW; field < FIELDS; field++) {
            dueWithoutForm(field, "way(0)", x -> x.way(0), -5);
            dueWithoutForm(field, "way(-1)", x -> x.way(-1), -5);
            dueWithoutForm(field, "way(-2)", x -> x.way(-2), -5);
            dueWithoutForm(field, "way(10)", x -> x.way(10), NONE);
            dueWithoutForm(field, "counts()", x -> x.counts(), -5);
            dueWithoutForm(field, "meet()", x -> x.meet(), -5);
            dueWithoutForm(field, "hard(0)", x -> x.hard(0), -5);
            dueWithoutForm(field, "hard(1)", x -> x.hard(1), -5);
            dueWithoutForm(field, "hard(2)", x -> x.hard(2), NONE);
            dueWithoutForm(field, "march()", x -> x.march(), STATE);
        }
    }

    private static void dueWithoutForm(int field, String name, Call call, int want) {
        FieldBand x = make(field);
        FieldBand other = make(field);
        x.form(-1);
        other.form(-1);
        int got = call.on(x);
        if (got != want) report(NAMES[field] + " without a FORM: " + name + " answered " + got + ", due is " + want);
        if (!Probe.spend(x).equals(Probe.spend(other))) report(NAMES[field] + " without a FORM: " + name + " has changed it");
    }

    private static void undo() {
        due(NEW, "undo()", x -> x.undo(), STATE);
        FieldBand x = Edges.band("speed 2", 0, 0, 0, 4, 1, 9);
        if (x.undo() != STATE) report("undo() without an image");
        if (!Probe.spend(x).equals(Probe.spend(Edges.band("speed 2", 0, 0, 0, 4, 1, 9)))) report("undo() without an image has changed it");
    }

    /** "0, and no TRACE then": all but THE TRACE is as it was. */
    private static void act() {
        for (int field = 0; field < FIELDS; field++) {
            for (int number : beside(9)) {
                dueButTrace(field, "act(" + number + ", 0, 5)", x -> x.act(number, 0, 5), 0);
                dueButTrace(field, "act(0, " + number + ", 5)", x -> x.act(0, number, 5), 0);
            }
            dueButTrace(field, "act(0, 3, 5)", x -> x.act(0, 3, 5), 0);
        }
    }

    private static void dueButTrace(int field, String name, Call call, int want) {
        FieldBand x = make(field);
        int got = call.on(x);
        if (got != want) report(NAMES[field] + ": " + name + " answered " + got + ", due is " + want);
        if (x.count(5) != 0 || x.trace(0) != NONE) report(NAMES[field] + ": a TRACE behind " + name);
        if (!Probe.spendWithoutTrace(x).equals(Probe.spendWithoutTrace(make(field)))) report(NAMES[field] + ": " + name + " has changed it");
    }

    /** What is only asked changes nothing either, whatever it looks for. */
    private static void asking() {
        Call[] asked = {x -> x.told(0), x -> x.of(0, 5), x -> x.heard(3, 0), x -> x.spread(3, 0), x -> x.spread(3, 9), x -> x.back(3, 9),
            x -> x.best(0), x -> x.best(1), x -> x.early(0, 3), x -> x.beats(3), x -> x.way(-1), x -> x.way(0), x -> x.counts(), x -> x.meet(),
            x -> x.hard(0), x -> x.off(1), x -> x.whom(0, 3, 7), x -> x.whom(1, 3, 7), x -> x.out(), x -> x.trace(0), x -> x.as(0, 1), x -> x.count(0)};
        for (int field = 0; field < FIELDS; field++) {
            for (int i = 0; i < asked.length; i++) {
                FieldBand x = make(field);
                int first = asked[i].on(x);
                if (asked[i].on(x) != first) report(NAMES[field] + ": what was asked as " + i + " is another answer then");
                if (!Probe.spend(x).equals(Probe.spend(make(field)))) report(NAMES[field] + ": to ask " + i + " has changed it");
            }
            FieldBand x = make(field);
            x.act(0, 2, 9);
            if (!Probe.spendWithoutTrace(x).equals(Probe.spendWithoutTrace(make(field)))) report(NAMES[field] + ": an act has changed it");
        }
    }
}
