import java.util.ArrayList;
import java.util.List;
import java.util.function.Consumer;

/**
 * What the tests ask: a FlowApply, and a new one ahead of the 513th call, for nothing is promised of an object behind
 * its 512th. The new one gets the calls that made what the old one was: its program, what is SHOWN, its fault, its TAPE.
 */
final class Subject {
    static final int MOST_CALLS = 512;

    private final boolean alone;
    private FlowApply now = new FlowApply();
    private int calls = 0;
    private final List<Consumer<FlowApply>> program = new ArrayList<>();
    private final List<Consumer<FlowApply>> shown = new ArrayList<>();
    private final List<Consumer<FlowApply>> wrong = new ArrayList<>();
    private final List<Consumer<FlowApply>> tape = new ArrayList<>();

    Subject() { this(false); }

    /** Alone: for what an earlier call left behind, which a new object would not have. It ends behind its 512 calls. */
    Subject(boolean alone) { this.alone = alone; }

    private FlowApply next() {
        if (calls == MOST_CALLS && alone) throw new AssertionError("a test asks too much of one object");
        if (calls == MOST_CALLS) renew();
        calls++;
        return now;
    }

    /** How many calls of the object are left. */
    int left() { return MOST_CALLS - calls; }

    private void renew() {
        List<Consumer<FlowApply>> all = new ArrayList<>(program);
        all.addAll(shown);
        all.addAll(wrong);
        all.addAll(tape);
        if (all.size() >= MOST_CALLS) throw new AssertionError("a test makes too much in one object");
        now = new FlowApply();
        for (Consumer<FlowApply> call : all) call.accept(now);
        calls = all.size();
    }

    private int showing(Consumer<FlowApply> call, int bytes) {
        shown.clear();
        shown.add(call);
        return bytes;
    }

    int feed(int a, int b, int c, int d, int e) {
        int got = next().feed(a, b, c, d, e);
        if (got != FlowApply.NONE) tape.add(x -> x.feed(a, b, c, d, e));
        return got;
    }

    boolean end(int n) {
        boolean got = next().end(n);
        if (got && n == 0) tape.clear();
        if (got && n > 0) tape.add(x -> x.end(n));
        return got;
    }

    int read() {
        FlowApply x = next();
        List<Consumer<FlowApply>> text = new ArrayList<>(tape);
        tape.clear();
        wrong.clear();
        try {
            int got = x.read();
            program.clear();
            program.addAll(text);
            program.add(FlowApply::read);
            shown.clear();
            return got;
        } catch (IllegalArgumentException | IllegalStateException e) {
            wrong.addAll(text);
            wrong.add(Subject::readWrong);
            throw e;
        }
    }

    private static void readWrong(FlowApply x) {
        try {
            x.read();
        } catch (IllegalArgumentException | IllegalStateException e) {
            return;
        }
        throw new AssertionError("a text was wrong at first, and is right now");
    }

    int take() {
        int got = next().take();
        program.add(FlowApply::take);
        shown.clear();
        return got;
    }

    int field(int f, int k) { return showing(x -> x.field(f, k), next().field(f, k)); }

    int type(int f) { return showing(x -> x.type(f), next().type(f)); }

    int typeOfMain() { return showing(FlowApply::typeOfMain, next().typeOfMain()); }

    int form(int split) { return showing(x -> x.form(split), next().form(split)); }

    int back() { return showing(FlowApply::back, next().back()); }

    int show() { return showing(FlowApply::show, next().show()); }

    int fault() { return next().fault(); }

    int function(int f, int what) { return next().function(f, what); }

    boolean alike(int f, int g) { return next().alike(f, g); }

    int site(int site, int what) { return next().site(site, what); }

    int split(int split, int what) { return next().split(split, what); }

    int group(int split, int k, boolean cases) { return next().group(split, k, cases); }

    int run(int how, int what) { return next().run(how, what); }

    int blame(int how, int k) { return next().blame(how, k); }

    int ring(int k) { return next().ring(k); }

    int far(int f, int g) { return next().far(f, g); }

    int octet(int k) { return next().octet(k); }

    int count(int what) { return next().count(what); }
}
