import java.util.ArrayList;
import java.util.List;

/**
 * The document once more, written in another way than FieldBand and without care for speed or room,
 * so that random runs of calls can be told right or wrong.
 */
final class Oracle {
    private static final int[] KIND_ABOVE = {-1, 0, 0, 0, 1, 2, 3};

    /** PLAYERS as classes, so that Java itself finds the bodies. */
    static class Listening {
        int i, v, dot;
        List<Integer> trace = new ArrayList<>();

        int goes(int x) { trace.add(1); return x + i; }

        int plays(int x) { trace.add(2); return goes(x) - v; }

        int fits(int x) { trace.add(3); return plays(x) * 2; }
    }

    static class Eyed extends Listening {
        @Override int goes(int x) { trace.add(11); return super.goes(x * 3); }
    }

    static class Backward extends Listening {
        @Override int plays(int x) { trace.add(21); return -super.plays(x); }
    }

    static class Forward extends Listening {
        @Override int fits(int x) { trace.add(31); return super.fits(x) ^ 7; }
    }

    static class Ahead extends Eyed {
        @Override int fits(int x) { trace.add(41); return super.fits(x - 1) + goes(2); }
    }

    static class Echoed extends Backward {
        @Override int goes(int x) { trace.add(51); return super.goes(x) ^ i; }
    }

    static class Counted extends Forward {
        @Override int plays(int x) { trace.add(61); return super.plays(x) + v; }
    }

    static Listening make(int kind, int i, int v, int dot) {
        Listening made;
        switch (kind) {
            case 0: made = new Listening(); break;
            case 1: made = new Eyed(); break;
            case 2: made = new Backward(); break;
            case 3: made = new Forward(); break;
            case 4: made = new Ahead(); break;
            case 5: made = new Echoed(); break;
            default: made = new Counted(); break;
        }
        made.i = i;
        made.v = v;
        made.dot = dot;
        return made;
    }

    static int kindOf(Listening p) {
        if (p instanceof Ahead) return 4;
        if (p instanceof Echoed) return 5;
        if (p instanceof Counted) return 6;
        if (p instanceof Eyed) return 1;
        if (p instanceof Backward) return 2;
        if (p instanceof Forward) return 3;
        return 0;
    }

    private List<Listening> players = new ArrayList<>();
    private List<String> shows = new ArrayList<>();
    private List<Integer> form = new ArrayList<>();
    private List<Integer> seen = new ArrayList<>();
    private String tape = "";
    private int drum = 60;
    private Oracle image = null;
    private List<Integer> trace = new ArrayList<>();

    // ---- the text of shows

    static final String NUMBER = "(0|[1-9][0-9]?)";

    /** Parts of a text between signs that stand in no parenthesis; null if parentheses do not fit. */
    static List<String> split(String text, char sign) {
        List<String> parts = new ArrayList<>();
        int depth = 0;
        int start = 0;
        for (int i = 0; i < text.length(); i++) {
            char c = text.charAt(i);
            if (c == '(') depth++;
            if (c == ')') depth--;
            if (depth < 0) return null;
            if (c == sign && depth == 0) {
                parts.add(text.substring(start, i));
                start = i + 1;
            }
        }
        if (depth != 0) return null;
        parts.add(text.substring(start));
        return parts;
    }

    static boolean validE(String e, int open) {
        if (open > 5) return false;
        List<String> ors = split(e, '|');
        if (ors == null) return false;
        for (String t : ors) {
            List<String> ands = split(t, '&');
            if (ands == null) return false;
            for (String f : ands) if (!validF(f, open)) return false;
        }
        return true;
    }

    static boolean validF(String f, int open) {
        if (open > 5) return false;
        if (f.startsWith("!")) return validF(f.substring(1), open + 1);
        if (f.startsWith("(")) return f.endsWith(")") && validE(f.substring(1, f.length() - 1), open + 1);
        return f.matches("[prckv][<=>]" + NUMBER);
    }

    static boolean validShow(String text) {
        String[] clauses = text.split(";", -1);
        if (clauses.length > 10) return false;
        for (String clause : clauses) {
            boolean plain = clause.matches("(speed|beat|step) " + NUMBER);
            if (!plain) {
                if (!clause.matches("(loud|late) " + NUMBER + " [^ ;]+")) return false;
                if (!validE(clause.substring(clause.indexOf(' ', 5) + 1), 0)) return false;
            }
        }
        return true;
    }

    static final String[] ENDS = {"", "1", "=1", "p=1", " p=1", "1 p=1", " 1 p=1", " 1",
        "loud 1 p=1", "oud 1 p=1", "ud 1 p=1", "d 1 p=1", "ate 1 p=1", "te 1 p=1", "e 1 p=1",
        "peed 1", "eed 1", "ed 1", "d 1", "eat 1", "at 1", "t 1", "tep 1", "ep 1", "p 1"};

    static boolean canGoOn(String start) {
        String closing = "";
        for (int i = 0; i <= 5; i++) {
            for (String end : ENDS) if (validShow(start + end + closing)) return true;
            closing += ")";
        }
        return false;
    }

    static int fault(String text) {
        if (validShow(text)) return -1;
        for (int i = 0; i < text.length(); i++) {
            if (!canGoOn(text.substring(0, i + 1))) return i;
        }
        return text.length();
    }

    private boolean holds(String e, Listening p) {
        for (String t : split(e, '|')) {
            boolean all = true;
            for (String f : split(t, '&')) all &= holdsF(f, p);
            if (all) return true;
        }
        return false;
    }

    private boolean holdsF(String f, Listening p) {
        if (f.startsWith("!")) return !holdsF(f.substring(1), p);
        if (f.startsWith("(")) return holds(f.substring(1, f.length() - 1), p);
        int n = Integer.parseInt(f.substring(2));
        int value;
        switch (f.charAt(0)) {
            case 'p': value = p.i; break;
            case 'r': value = p.dot / 8; break;
            case 'c': value = p.dot % 8; break;
            case 'k': value = kindOf(p); break;
            default: value = p.v; break;
        }
        char sign = f.charAt(1);
        return sign == '<' ? value < n : sign == '=' ? value == n : value > n;
    }

    private String[] clauses() {
        return shows.isEmpty() ? new String[0] : shows.get(shows.size() - 1).split(";");
    }

    private int together(String word, Listening p) {
        int sum = 0;
        for (String clause : clauses()) {
            String[] parts = clause.split(" ");
            if (parts[0].equals(word) && holds(parts[2], p)) sum += Integer.parseInt(parts[1]);
        }
        return sum;
    }

    private int last(String word, int without) {
        int n = without;
        for (String clause : clauses()) {
            String[] parts = clause.split(" ");
            if (parts[0].equals(word)) n = Integer.parseInt(parts[1]);
        }
        return n;
    }

    private int speed() { return last("speed", 3); }

    private int beat() { return Math.max(1, last("beat", 50)); }

    private int step() { return Math.max(1, last("step", 2)); }

    // ---- sound

    static int far(int row, int column, int otherRow, int otherColumn) {
        return Math.max(Math.abs(row - otherRow), Math.abs(column - otherColumn));
    }

    static int far(int dot, int other) {
        return far(dot / 8, dot % 8, other / 8, other % 8);
    }

    private int loud(Listening p) { return 1 + together("loud", p); }

    private Listening inColumn(List<Listening> all, Listening p, boolean behind) {
        for (int row = p.dot / 8 + (behind ? 1 : -1); row >= 0 && row < 8; row += behind ? 1 : -1) {
            for (Listening q : all) if (q.dot == row * 8 + p.dot % 8) return q;
        }
        return null;
    }

    private int plays(List<Listening> all, Listening p, int drumDot) {
        int slip = together("late", p);
        int listening = slip + speed() * far(p.dot, drumDot);
        int eyed = slip;
        if (p instanceof Counted) return eyed + p.v * p.i;
        if (p instanceof Ahead) return eyed - p.v;
        if (p instanceof Eyed) return eyed;
        if (p instanceof Backward) {
            Listening q = inColumn(all, p, true);
            int backward = q == null ? listening : slip + plays(all, q, drumDot) + speed() * far(p.dot, q.dot);
            return p instanceof Echoed ? backward + speed() * (p.dot / 8) : backward;
        }
        if (p instanceof Forward) {
            Listening q = inColumn(all, p, false);
            if (q == null) return eyed;
            if (q instanceof Backward) return listening;
            return slip + plays(all, q, drumDot) + speed() * far(p.dot, q.dot);
        }
        return listening;
    }

    private int heard(List<Listening> all, Listening p, int seat, int drumDot) {
        return plays(all, p, drumDot) + speed() * far(p.dot / 8, p.dot % 8, -1, seat);
    }

    private int spread(List<Listening> all, int seat, int drumDot) {
        return all.stream().mapToInt(p -> heard(all, p, seat, drumDot)).max().orElse(0)
            - all.stream().mapToInt(p -> heard(all, p, seat, drumDot)).min().orElse(0);
    }

    private int spreads(List<Listening> all, int drumDot) {
        int sum = 0;
        for (int seat = 0; seat < 8; seat++) sum += spread(all, seat, drumDot);
        return sum;
    }

    private List<Listening> with(int number, int kind) {
        List<Listening> all = new ArrayList<>(players);
        Listening p = players.get(number);
        all.set(number, make(kind, p.i, p.v, p.dot));
        return all;
    }

    // ---- the calls

    private Listening on(int dot) {
        for (Listening p : players) if (p.dot == dot) return p;
        return null;
    }

    private static boolean in(int n, int from, int to) { return n >= from && n <= to; }

    private boolean isPlayer(int p) { return in(p, 0, players.size() - 1); }

    int feed(long w, int n) {
        if (!in(n, 1, 8)) return -2;
        if (tape.length() + n > 120) return -4;
        String hex = String.format("%016x", w);
        for (int i = 8 - n; i < 8; i++) tape += (char) Integer.parseInt(hex.substring(2 * i, 2 * i + 2), 16);
        return tape.length();
    }

    int show() {
        if (shows.size() == 5) return -4;
        int fault = fault(tape);
        if (fault < 0) shows.add(tape);
        tape = "";
        return fault < 0 ? shows.size() - 1 : -10 - fault;
    }

    int told(int what) { return what == 0 ? speed() : what == 1 ? beat() : what == 2 ? step() : -1; }

    int player(int kind, int v, int dot) {
        if (!in(kind, 0, 6) || !in(dot, 0, 63)) return -1;
        if (!in(v, 0, 9)) return -2;
        if (on(dot) != null) return -3;
        if (players.size() == 10) return -4;
        players.add(make(kind, players.size(), v, dot));
        return players.size() - 1;
    }

    int of(int player, int what) {
        if (!isPlayer(player) || !in(what, 0, 5)) return -1001;
        Listening p = players.get(player);
        switch (what) {
            case 0: return kindOf(p);
            case 1: return p.v;
            case 2: return p.dot;
            case 3: return loud(p);
            case 4: return together("late", p);
            default: return plays(players, p, drum);
        }
    }

    int drum(int dot) {
        if (!in(dot, 0, 63)) return -1;
        int was = drum;
        drum = dot;
        return was;
    }

    int put(int player, int dot) {
        if (!isPlayer(player) || !in(dot, 0, 63)) return -1;
        Listening p = players.get(player);
        if (on(dot) != null && on(dot) != p) return -3;
        int was = p.dot;
        p.dot = dot;
        return was;
    }

    int heard(int seat, int player) {
        if (!in(seat, 0, 7) || !isPlayer(player)) return -1001;
        return heard(players, players.get(player), seat, drum);
    }

    int spread(int seat, int what) {
        if (!in(seat, 0, 7) || !in(what, 0, 50)) return -1;
        if (what == 0) return spread(players, seat, drum);
        Listening loudest = null;
        for (Listening p : players) if (loudest == null || loud(p) > loud(loudest)) loudest = p;
        int sum = 0;
        for (Listening p : players) {
            int apart = heard(players, p, seat, drum) - heard(players, loudest, seat, drum);
            if (in(apart, 1 - what, what - 1)) sum += loud(p);
        }
        return sum;
    }

    int back(int seat, int n) {
        if (!in(seat, 0, 7)) return -1;
        if (!in(n, 0, 99)) return -2;
        int bits = 0;
        int ofDrum = speed() * far(drum / 8, drum % 8, -1, seat);
        for (int i = 0; i < players.size(); i++) {
            List<Listening> all = with(i, 0);
            if (in(heard(all, all.get(i), seat, drum) - ofDrum, -n, n)) bits += 1 << i;
        }
        return bits;
    }

    int best(int what) {
        if (!in(what, 0, 1)) return -1;
        int best = -1;
        int least = Integer.MAX_VALUE;
        for (int dot = 63; dot >= 0; dot--) {
            if (on(dot) == null && spreads(players, dot) <= least) {
                best = dot;
                least = spreads(players, dot);
            }
        }
        return what == 0 ? best : least;
    }

    int early(int player, int seat) {
        if (!isPlayer(player) || !in(seat, 0, 7)) return -1;
        int most = 0;
        int own = heard(players, players.get(player), seat, drum);
        for (Listening p : players) most = Math.max(most, own - heard(players, p, seat, drum));
        return most;
    }

    int beats(int seat) { return in(seat, 0, 7) ? spread(players, seat, drum) / beat() : -1; }

    int form(int dot) {
        if (dot == -1) form.clear();
        else if (!in(dot, 0, 63)) return -1;
        else if (form.contains(dot)) return -3;
        else if (form.size() == 10) return -4;
        else form.add(dot);
        return form.size();
    }

    /** All rows of places of PLAYERS, in their order. */
    private void rows(List<Integer> row, List<List<Integer>> all) {
        if (row.size() == players.size()) {
            all.add(new ArrayList<>(row));
            return;
        }
        for (int place = 0; place < players.size(); place++) {
            if (!row.contains(place)) {
                row.add(place);
                rows(row, all);
                row.remove(row.size() - 1);
            }
        }
    }

    private int go(int p, int place) { return far(players.get(p).dot, form.get(place)); }

    private int greatest(List<Integer> row) {
        int most = 0;
        for (int p = 0; p < row.size(); p++) most = Math.max(most, go(p, row.get(p)));
        return most;
    }

    private int sum(List<Integer> row) {
        int sum = 0;
        for (int p = 0; p < row.size(); p++) sum += go(p, row.get(p));
        return sum;
    }

    private boolean tooFew() { return form.size() < players.size(); }

    int way(int k) {
        if (!in(k, -2, players.size() - 1)) return -1;
        if (tooFew()) return -5;
        if (players.size() > 6) return -9;
        List<List<Integer>> all = new ArrayList<>();
        rows(new ArrayList<>(), all);
        List<Integer> best = all.get(0);
        for (List<Integer> row : all) {
            if (greatest(row) * 1000 + sum(row) < greatest(best) * 1000 + sum(best)) best = row;
        }
        return k == -1 ? greatest(best) : k == -2 ? sum(best) : best.get(k);
    }

    int counts() {
        int greatest = way(-1);
        if (greatest < 0) return greatest;
        int counts = 0;
        while (counts * step() < greatest) counts++;
        return counts;
    }

    private String half(int p) {
        int from = players.get(p).dot;
        int to = form.get(p);
        return (from / 8 + to / 8) / 2.0 + " " + (from % 8 + to % 8) / 2.0;
    }

    int meet() {
        if (tooFew()) return -5;
        int pairs = 0;
        for (int a = 0; a < players.size(); a++) {
            for (int b = 0; b < a; b++) if (half(a).equals(half(b))) pairs++;
        }
        return pairs;
    }

    int hard(int what) {
        if (!in(what, 0, 1)) return -1;
        if (tooFew()) return -5;
        int most = 0;
        for (int p = 0; p < players.size(); p++) most = Math.max(most, go(p, p));
        int bits = 0;
        for (int p = 0; p < players.size(); p++) if (go(p, p) == most) bits += 1 << p;
        return what == 0 ? bits : most;
    }

    int march() {
        if (tooFew()) return -3;
        int moved = 0;
        for (Listening p : players) {
            if (p.dot != form.get(p.i)) moved++;
            p.dot = form.get(p.i);
        }
        return moved;
    }

    int seen(int dot) {
        if (dot == -1) seen.clear();
        else if (!in(dot, 0, 63)) return -1;
        else if (seen.size() == 10) return -4;
        else seen.add(dot);
        return seen.size();
    }

    int off(int what) {
        if (!in(what, 0, 1)) return -1;
        int many = 0;
        int worst = -5;
        for (int p = Math.min(players.size(), seen.size()) - 1; p >= 0; p--) {
            int far = far(players.get(p).dot, seen.get(p));
            if (far == 0) continue;
            many++;
            if (worst == -5 || far >= far(players.get(worst).dot, seen.get(worst))) worst = p;
        }
        return what == 0 ? many : worst;
    }

    int whom(int player, int seat, int hundredth) {
        if (!isPlayer(player) || !in(seat, 0, 7)) return -1;
        if (!in(hundredth, 0, 999)) return -2;
        int bits = 0;
        for (int kind = 0; kind < 7; kind++) {
            List<Listening> all = with(player, kind);
            if (heard(all, all.get(player), seat, drum) == hundredth) bits += 1 << kind;
        }
        return bits;
    }

    int out() {
        if (players.size() < 2) return -5;
        int best = -1;
        int least = Integer.MAX_VALUE;
        for (int p = players.size() - 1; p >= 0; p--) {
            List<Listening> all = new ArrayList<>(players);
            all.remove(p);
            int sum = spreads(all, drum);
            if (sum <= least) {
                best = p;
                least = sum;
            }
        }
        return best;
    }

    int act(int player, int act, int x) {
        trace = new ArrayList<>();
        if (!isPlayer(player) || !in(act, 0, 2)) return 0;
        Listening p = players.get(player);
        p.trace = trace;
        return act == 0 ? p.goes(x) : act == 1 ? p.plays(x) : p.fits(x);
    }

    int trace(int i) { return in(i, 0, Math.min(20, trace.size()) - 1) ? trace.get(i) : -1; }

    int as(int player, int k) {
        if (!isPlayer(player) || !in(k, 0, 6)) return -1;
        for (int kind = kindOf(players.get(player)); kind >= 0; kind = KIND_ABOVE[kind]) {
            if (kind == k) return players.get(player).v;
        }
        return -6;
    }

    private void takeOver(Oracle other) {
        players = new ArrayList<>();
        for (Listening p : other.players) players.add(make(kindOf(p), p.i, p.v, p.dot));
        shows = new ArrayList<>(other.shows);
        form = new ArrayList<>(other.form);
        seen = new ArrayList<>(other.seen);
        tape = other.tape;
        drum = other.drum;
    }

    int image() {
        image = new Oracle();
        image.takeOver(this);
        return players.size();
    }

    int undo() {
        if (image == null) return -3;
        takeOver(image);
        return players.size();
    }

    int count(int what) {
        int[] counts = {players.size(), shows.size(), form.size(), seen.size(), tape.length(), trace.size(), drum};
        return in(what, 0, 6) ? counts[what] : -1;
    }
}
