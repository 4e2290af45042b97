import java.util.ArrayList;
import java.util.List;

/**
 * An object under test that is never used beyond its 512th call: a new one, brought to the same state by the same
 * calls, takes its place then. What those calls answer must be what they answered before.
 */
final class Run {
    static final int MOST_CALLS = 512;

    /** A call that changes something, or may. */
    private interface Change {
        long on(TableVolumes x);
    }

    private final int sectors;
    private final List<Change> changes = new ArrayList<>();
    private final List<Long> answers = new ArrayList<>();
    private TableVolumes x;
    private int calls;

    Run(int sectors) {
        this.sectors = sectors;
        x = new TableVolumes(sectors);
    }

    /** Another object in the same state. */
    Run fork() {
        Run other = new Run(sectors);
        other.changes.addAll(changes);
        other.answers.addAll(answers);
        other.renew();
        return other;
    }

    /** How many calls a new object needs to come to this state. */
    int changes() {
        return changes.size();
    }

    private void renew() {
        if (changes.size() >= MOST_CALLS) {
            throw new AssertionError("a test changes one object by more than " + MOST_CALLS + " calls");
        }
        x = new TableVolumes(sectors);
        calls = changes.size();
        for (int i = 0; i < changes.size(); i++) {
            Kit.due("call " + i + ", made again", outcome(changes.get(i)), answers.get(i));
        }
    }

    /** The answer, or a number for what was thrown that no answer is. */
    private long outcome(Change change) {
        long[] answer = {0};
        int thrown = Kit.thrown(() -> answer[0] = change.on(x));
        return thrown == Kit.NOTHING ? answer[0] : Long.MIN_VALUE + thrown;
    }

    private TableVolumes next() {
        if (calls == MOST_CALLS) {
            renew();
        }
        calls++;
        return x;
    }

    private long change(Change change) {
        next();
        int index = changes.size();
        changes.add(change);
        answers.add(Long.MIN_VALUE);
        try {
            answers.set(index, change.on(x));
        } catch (RuntimeException e) {
            answers.set(index, Long.MIN_VALUE + Kit.kindOf(e));
            throw e;
        }
        return answers.get(index);
    }

    void feed(int a, int b, int c, int d, int e) {
        change(y -> {
            y.feed(a, b, c, d, e);
            return 0;
        });
    }

    int end(int n) {
        return (int) change(y -> y.end(n));
    }

    void clear() {
        change(y -> {
            y.clear();
            return 0;
        });
    }

    int format(int cluster, int before, int tables, int id) {
        return (int) change(y -> y.format(cluster, before, tables, id));
    }

    boolean poke(int sector, int at, int value) {
        return change(y -> y.poke(sector, at, value) ? 1 : 0) == 1;
    }

    int fault() {
        return next().fault();
    }

    int byteAt(int sector, int at) {
        return next().byteAt(sector, at);
    }

    int free() {
        return next().free();
    }

    int items() {
        return next().items();
    }

    int letter(int k, int i) {
        return next().letter(k, i);
    }

    long about(int k, int what) {
        return next().about(k, what);
    }

    int content(int k, int at) {
        return next().content(k, at);
    }

    int enter(int k) {
        return (int) change(y -> y.enter(k));
    }

    boolean up() {
        return change(y -> y.up() ? 1 : 0) == 1;
    }

    int make(boolean directory) {
        return (int) change(y -> y.make(directory));
    }

    int write(int k) {
        return (int) change(y -> y.write(k));
    }

    int grow(int k, int n, int seed) {
        return (int) change(y -> y.grow(k, n, seed));
    }

    int cut(int k, int size) {
        return (int) change(y -> y.cut(k, size));
    }

    void remove(int k) {
        change(y -> {
            y.remove(k);
            return 0;
        });
    }

    void stamp(int k, int what, int day, int time) {
        change(y -> {
            y.stamp(k, what, day, time);
            return 0;
        });
    }
}
