import java.util.ArrayList;
import java.util.List;

/** All that calls can find out about an object, as a row of answers; the object is spent then. */
final class Probe {
    private final FieldBand x;
    private final List<Integer> answers = new ArrayList<>();

    private Probe(FieldBand x) {
        this.x = x;
    }

    /** Two objects with the same row have answered all that was asked alike, up to THE IMAGE. */
    static List<Integer> spend(FieldBand x) {
        Probe probe = new Probe(x);
        probe.trace();
        probe.field();
        probe.formAndTape();
        probe.dotsOfForm();
        probe.add(x.undo());
        probe.field();
        probe.formAndTape();
        return probe.answers;
    }

    /** Likewise, but for THE TRACE. */
    static List<Integer> spendWithoutTrace(FieldBand x) {
        x.act(-1, 0, 0);
        return spend(x);
    }

    private void add(int answer) {
        answers.add(answer);
    }

    private void trace() {
        add(x.count(5));
        for (int i = 0; i < 8; i++) add(x.trace(i));
    }

    private void field() {
        for (int what : new int[] {0, 1, 2, 3, 4, 6}) add(x.count(what));
        for (int what = 0; what < 3; what++) add(x.told(what));
        int players = x.count(0);
        for (int p = 0; p < players; p++) {
            for (int what = 0; what < 6; what++) add(x.of(p, what));
        }
        for (int k = -2; k < Math.min(players, 6); k++) add(x.way(k));
        add(x.spread(3, 0));
        add(x.spread(3, 10));
        add(x.best(0));
        add(x.meet());
        add(x.hard(0));
        add(x.off(0));
        add(x.off(1));
        add(x.out());
    }

    /** What is SEEN, the DOTS of the FORM that PLAYERS go to, THE TAPE's bytes: told by what they lead to. */
    private void formAndTape() {
        add(x.march());
        int players = x.count(0);
        for (int p = 0; p < players; p++) add(x.of(p, 2));
        add(x.off(0));
        add(x.off(1));
        add(x.show());
        for (int what = 0; what < 3; what++) add(x.told(what));
        for (int p = 0; p < players; p++) {
            add(x.of(p, 3));
            add(x.of(p, 4));
        }
    }

    private void dotsOfForm() {
        for (int dot = 0; dot < 64; dot++) add(x.form(dot));
    }
}
