import java.io.IOException;
import java.nio.file.Files;
import java.nio.file.Path;
import java.util.ArrayList;
import java.util.List;
import java.util.function.Supplier;

/** What the tests of sentences have in common: the words of the document that are tested, and answers in rows. */
final class Sentences {
    static final String NONE_SUCH = "NoSuchElement";
    static final String BEYOND = "IndexOutOfBounds";
    static final String ILLEGAL = "IllegalArgument";
    static final String CANNOT = "IllegalState";
    static final int LEAST = Integer.MIN_VALUE;
    static final int MOST = Integer.MAX_VALUE;

    private static final List<String> quoted = new ArrayList<>();
    private static String words = "";
    private static int tested = 1;

    private Sentences() { }

    /** The tests that follow are of these words of the document, and would fail if what they say were broken. */
    static void sentence(String next) {
        if (tested == 0) Checks.due("a test of '" + words + "'", true, false);
        words = next;
        tested = 0;
        quoted.add(next);
    }

    static void due(String what, Object want, Object got) {
        tested++;
        Checks.due("'" + words + "': " + what, want, got);
    }

    /** With the path of DOC.md as an argument it tells which words do not stand there (any more). */
    static void close(String name, String[] args) throws IOException {
        sentence("");
        if (args.length > 0) {
            String document = Files.readString(Path.of(args[0])).replace("`", "").replaceAll("\\s+", " ");
            for (String next : quoted) if (!document.contains(next)) System.out.println("not in the document: " + next);
        }
        Checks.close(name);
    }

    static Subject of(String text) { return Checks.of(text); }

    static Object answer(Supplier<Object> call) { return Checks.answer(call); }

    static String times(int many, String text) { return text.repeat(many); }

    /** How a read of the text goes: how many FUNCTIONS, where the fault is, or the exception of one that does not TYPE. */
    static String reading(String text) {
        Subject x = new Subject();
        Object got = Checks.read(x, text);
        if (got.equals(ILLEGAL)) return "wrong at " + x.fault();
        return (x.fault() == -1 ? "" : "fault " + x.fault() + " of ") + got;
    }

    static void functions(int many, String text) { due(text, "" + many, reading(text)); }

    static void wrongAt(int at, String text) { due(text, "wrong at " + at, reading(text)); }

    static void untyped(String text) { due(text, CANNOT, reading(text)); }

    static void shows(String want, String text) { due("show of " + text, want, show(of(text))); }

    static String show(Subject x) { return String.valueOf(Checks.told(x, x::show)); }

    static String back(String text) {
        Subject x = of(text);
        return String.valueOf(Checks.told(x, x::back));
    }

    static String form(int split, String text) {
        Subject x = of(text);
        return String.valueOf(Checks.told(x, () -> x.form(split)));
    }

    static String typeOf(int f, String text) {
        Subject x = of(text);
        return String.valueOf(Checks.told(x, () -> x.type(f)));
    }

    static String typeOfMain(String text) {
        Subject x = of(text);
        return String.valueOf(Checks.told(x, x::typeOfMain));
    }

    /** Answers for 0, 1, .. with blanks between; an exception by its name. */
    static String row(int many, java.util.function.IntFunction<Object> call) {
        StringBuilder out = new StringBuilder();
        for (int k = 0; k < many; k++) {
            int at = k;
            out.append(k == 0 ? "" : " ").append(answer(() -> call.apply(at)));
        }
        return out.toString();
    }

    static String functionRow(Subject x, int f) { return row(13, what -> x.function(f, what)); }

    static String siteRow(Subject x, int site) { return row(7, what -> x.site(site, what)); }

    static String splitRow(Subject x, int split) { return row(5, what -> x.split(split, what)); }

    static String groupRow(Subject x, int split) { return row(x.split(split, 0), k -> x.group(split, k, false)); }

    static String caseRow(Subject x, int split) { return row(x.split(split, 0), k -> x.group(split, k, true)); }

    static String runRow(Subject x, int how) { return row(5, what -> x.run(how, what)); }

    static String blameRow(Subject x, int how) {
        int many = 0;
        while (x.blame(how, many) != -1) many++;
        return row(many, k -> x.blame(how, k));
    }

    static String ringRow(Subject x) { return row(x.count(9), x::ring); }

    static String fieldRow(Subject x, int f) {
        return row(x.function(f, 6), k -> Checks.told(x, () -> x.field(f, k)));
    }

    /** The run of the program and of its three forms: how it ends, the answer, STEPS, DEEP, what was entered. */
    static void runs(String want, String text) {
        Subject x = of(text);
        for (int how = 0; how < 4; how++) due("run " + how + " of " + text, want, runRow(x, how));
    }

    static void runsBlaming(String want, String blame, String text) {
        runs(want, text);
        Subject x = of(text);
        for (int how = 0; how < 4; how++) due("blame " + how + " of " + text, blame, blameRow(x, how));
    }
}
