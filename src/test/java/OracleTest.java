import java.util.ArrayList;
import java.util.List;
import java.util.Random;

/** Random runs of 512 calls, each call answered by FieldBand as by Oracle. */
public final class OracleTest {
    private static final int RUNS = 250;
    private static final int CALLS = 512;

    private final Random random;
    private final FieldBand x = new FieldBand();
    private final Oracle y = new Oracle();
    private final List<String> calls = new ArrayList<>();
    private boolean wrong = false;
    /** WAYS are for 6 PLAYERS at most, so some runs have no more. */
    private final int mostPlayers;

    private OracleTest(long seed) {
        random = new Random(seed);
        mostPlayers = random.nextBoolean() ? 10 : 1 + random.nextInt(7);
    }

    public static void main(String[] args) {
        int runs = args.length > 0 ? Integer.parseInt(args[0]) : RUNS;
        long firstSeed = args.length > 1 ? Long.parseLong(args[1]) : 1;
        int failed = 0;
        for (int i = 0; i < runs && failed < 3; i++) {
            OracleTest test = new OracleTest(firstSeed + i);
            if (!test.passes()) {
                failed++;
                System.out.println("seed " + (firstSeed + i) + ":");
                int from = Math.max(0, test.calls.size() - 40);
                for (String call : test.calls.subList(from, test.calls.size())) System.out.println("  " + call);
            }
        }
        if (failed > 0) System.exit(1);
    }

    private boolean passes() {
        int mood = random.nextInt(4);
        for (int i = 0; i < CALLS && !wrong; ) {
            i += mood == 0 && random.nextInt(4) == 0 ? feedAndShow() : call(random.nextInt(34));
        }
        return !wrong;
    }

    private int due(String call, int got, int want) {
        calls.add(call + " -> " + got + (got == want ? "" : ", due is " + want));
        wrong |= got != want;
        return 1;
    }

    /** Mostly a number below a bound, now and then one beside it. */
    private int near(int bound) {
        if (random.nextInt(12) > 0) return random.nextInt(bound);
        int[] odd = {-1, -2, bound, bound + 1, Integer.MIN_VALUE, Integer.MAX_VALUE, -100, 1 << 20};
        return odd[random.nextInt(odd.length)];
    }

    private int aPlayer() {
        int players = y.count(0);
        return players == 0 || random.nextInt(15) == 0 ? near(11) : random.nextInt(players);
    }

    /** Few columns, so that PLAYERS stand behind one another. */
    private int aDot() {
        return random.nextBoolean() ? near(64) : random.nextInt(8) * 8 + random.nextInt(2);
    }

    private String number() {
        return "" + (random.nextBoolean() ? random.nextInt(10) : random.nextInt(100));
    }

    private String test() {
        String number = random.nextInt(4) > 0 ? "" + random.nextInt(8) : number();
        return "" + "prckv".charAt(random.nextInt(5)) + "<=>".charAt(random.nextInt(3)) + number;
    }

    private String factor(int depth) {
        int pick = random.nextInt(depth > 5 ? 6 : 10);
        if (pick < 6) return test();
        return pick < 8 ? "!" + factor(depth + 1) : "(" + either(depth + 1) + ")";
    }

    private String either(int depth) {
        String text = factor(depth);
        while (random.nextInt(5) < 2) text += (random.nextBoolean() ? "&" : "|") + factor(depth);
        return text;
    }

    private String clause() {
        switch (random.nextInt(8)) {
            case 0: return "speed " + number();
            case 1: return "beat " + number();
            case 2: return "step " + random.nextInt(5);
            case 3:
            case 4: return "loud " + number() + " " + either(0);
            default: return "late " + number() + " " + either(0);
        }
    }

    private String text() {
        int clauses = random.nextInt(20) == 0 ? 9 + random.nextInt(3) : random.nextInt(6);
        String text = clause();
        for (int i = 1; i < clauses; i++) text += ";" + (clauses > 8 ? "beat 1" : clause());
        if (random.nextInt(4) == 0) text = spoil(text);
        return text;
    }

    private String spoil(String text) {
        int at = random.nextInt(text.length());
        String signs = "prckv<=>!()&|;0123456789 loudatespbx\u00e9\u0000";
        String sign = "" + signs.charAt(random.nextInt(signs.length()));
        switch (random.nextInt(4)) {
            case 0: return text.substring(0, at);
            case 1: return text.substring(0, at) + text.substring(at + 1);
            case 2: return text.substring(0, at) + sign + text.substring(at);
            default: return text.substring(0, at) + sign + text.substring(at + 1);
        }
    }

    private int feed(long w, int n) {
        return due("feed(" + w + "L, " + n + ")", x.feed(w, n), y.feed(w, n));
    }

    private int show() {
        return due("show()", x.show(), y.show());
    }

    private int feedAndShow() {
        String text = text();
        int made = 0;
        for (int i = 0; i < text.length(); ) {
            int n = Math.min(1 + random.nextInt(8), text.length() - i);
            long w = random.nextLong();
            for (int k = 0; k < n; k++) w = w << 8 | text.charAt(i + k);
            made += feed(w, n);
            i += n;
        }
        return random.nextInt(6) > 0 ? made + show() : made;
    }

    private int hundredth(int p, int seat) {
        return random.nextInt(3) > 0 ? Math.max(0, y.heard(seat, p)) : near(1000);
    }

    private int call(int which) {
        int p = aPlayer();
        int q = aDot();
        int s = near(8);
        int k = near(7);
        switch (which) {
            case 0: return feed(random.nextLong(), near(9));
            case 1: return random.nextInt(3) == 0 ? show() : feedAndShow();
            case 2: return due("told(" + (k = near(3)) + ")", x.told(k), y.told(k));
            case 3:
            case 4: int v = near(10);
                return mostPlayers < 10 && y.count(0) >= mostPlayers ? 0 : due("player(" + k + ", " + v + ", " + q + ")", x.player(k, v, q), y.player(k, v, q));
            case 5:
            case 6: k = random.nextBoolean() ? 5 : near(6);
                return due("of(" + p + ", " + k + ")", x.of(p, k), y.of(p, k));
            case 7: return due("drum(" + q + ")", x.drum(q), y.drum(q));
            case 8: return due("put(" + p + ", " + q + ")", x.put(p, q), y.put(p, q));
            case 9: return due("heard(" + s + ", " + p + ")", x.heard(s, p), y.heard(s, p));
            case 10: k = random.nextInt(3) == 0 ? 0 : near(51);
                return due("spread(" + s + ", " + k + ")", x.spread(s, k), y.spread(s, k));
            case 11: k = near(100);
                return due("back(" + s + ", " + k + ")", x.back(s, k), y.back(s, k));
            case 12: return due("best(" + (k = near(2)) + ")", x.best(k), y.best(k));
            case 13: return due("early(" + p + ", " + s + ")", x.early(p, s), y.early(p, s));
            case 14: return due("beats(" + s + ")", x.beats(s), y.beats(s));
            default: return laterCall(which, p, q, s, k);
        }
    }

    private int laterCall(int which, int p, int q, int s, int k) {
        switch (which) {
            case 15:
            case 16: q = random.nextInt(40) == 0 ? -1 : random.nextInt(64);
                return due("form(" + q + ")", x.form(q), y.form(q));
            case 17: k = random.nextInt(3) == 0 ? -1 - random.nextInt(2) : p;
                return due("way(" + k + ")", x.way(k), y.way(k));
            case 18: return due("counts()", x.counts(), y.counts());
            case 19: return due("meet()", x.meet(), y.meet());
            case 20: return due("hard(" + (k = near(2)) + ")", x.hard(k), y.hard(k));
            case 21: return random.nextBoolean() ? 0 : due("march()", x.march(), y.march());
            case 22: q = random.nextInt(3) == 0 ? y.of(y.count(3), 2) : near(64);
                return due("seen(" + q + ")", x.seen(q), y.seen(q));
            case 23: return due("off(" + (k = near(2)) + ")", x.off(k), y.off(k));
            case 24:
            case 25: int h = hundredth(p, s);
                return due("whom(" + p + ", " + s + ", " + h + ")", x.whom(p, s, h), y.whom(p, s, h));
            case 26: return due("out()", x.out(), y.out());
            case 27:
            case 28: int a = near(3);
                int n = random.nextBoolean() ? random.nextInt(100) : random.nextInt();
                return due("act(" + p + ", " + a + ", " + n + ")", x.act(p, a, n), y.act(p, a, n));
            case 29: return due("trace(" + (k = near(7)) + ")", x.trace(k), y.trace(k));
            case 30: return due("as(" + p + ", " + k + ")", x.as(p, k), y.as(p, k));
            case 31: return random.nextInt(4) > 0 ? 0 : due("image()", x.image(), y.image());
            case 32: return random.nextInt(4) > 0 ? 0 : due("undo()", x.undo(), y.undo());
            default: return due("count(" + (k = near(7)) + ")", x.count(k), y.count(k));
        }
    }
}
