import java.io.IOException;
import java.util.function.Function;
import java.util.function.Supplier;

/** The paragraph on exceptions and the promises: their sentences that name a boundary case, each with a test of its own. */
public final class CallSentenceTests {
    private static final String NONE_SUCH = Sentences.NONE_SUCH;
    private static final String BEYOND = Sentences.BEYOND;
    private static final String ILLEGAL = Sentences.ILLEGAL;
    private static final String CANNOT = Sentences.CANNOT;
    private static final int LEAST = Sentences.LEAST;
    private static final int MOST = Sentences.MOST;
    private static final String SAMPLE = "fun f g=g 1/g 0;let k=1 in f (\\x.x+k)+(\\y.f y) (\\z.0)+dead (\\w.w)";

    public static void main(String[] args) throws IOException {
        calls();
        severalExceptions();
        throwsChangeNothing();
        readsThatThrow();
        exceptionsByKind();
        shownAtFirst();
        feed();
        end();
        read();
        readBehindOthers();
        fault();
        function();
        field();
        type();
        alike();
        site();
        split();
        group();
        run();
        runBehindOthers();
        blame();
        shownByCalls();
        take();
        ring();
        far();
        octet();
        count();
        Sentences.close("CallSentenceTests", args);
    }

    private static void sentence(String words) { Sentences.sentence(words); }

    private static void due(String what, Object want, Object got) { Sentences.due(what, want, got); }

    private static void thrown(String want, String what, Supplier<Object> call) { due(what, want, Checks.answer(call)); }

    private static Subject of(String text) { return Sentences.of(text); }

    /** One object with the text's program, for what a call leaves behind. */
    private static Subject alone(String text) {
        Subject x = new Subject(true);
        Checks.read(x, text);
        return x;
    }

    private static String times(int many, String text) { return text.repeat(many); }

    /** All that can be asked without a change of what is SHOWN. */
    private static String state(Subject x) {
        StringBuilder out = new StringBuilder();
        int functions = x.count(0) + x.count(1);
        out.append(x.fault()).append(';').append(Sentences.row(13, x::count)).append(';');
        for (int f = 0; f < functions; f++) out.append(Sentences.functionRow(x, f)).append(';');
        for (int site = 0; site < x.count(2); site++) out.append(Sentences.siteRow(x, site)).append(';');
        for (int split = 0; split < 3; split++) {
            out.append(Sentences.splitRow(x, split)).append(';').append(Sentences.groupRow(x, split)).append(';');
        }
        for (int how = 0; how < 4; how++) {
            int at = how;
            out.append(Sentences.runRow(x, how)).append(' ').append(Sentences.row(3, k -> x.blame(at, k))).append(';');
        }
        for (int f = 0; f < functions; f++) {
            int from = f;
            out.append(Sentences.row(functions, g -> x.far(from, g))).append(Sentences.row(functions, g -> x.alike(from, g)));
        }
        return out.append(Sentences.ringRow(x)).append(';').append(Checks.shown(x)).toString();
    }

    private static void calls() {
        sentence("An object is used for at most 512 calls after it has been made");
        FlowApply x = new FlowApply();
        for (int k = 0; k < 25; k++) {
            // twenty calls each time round: a feed, an end, a read that is wrong at its 7th byte, seventeen others
            x.feed(0x66756e20, 0x66207838, 0x203d780a, 0x3b66205c, 0x782e7820);
            x.end(11);
            due("a read", ILLEGAL, Checks.answer(x::read));
            for (int j = 0; j < 17; j++) x.run(j % 4, 0);
        }
        for (int k = 0; k < 9; k++) x.octet(k);
        due("the 510th", 7, x.fault());
        x.feed(0x28282828, 0x28282828, 0x28282828, 0x28282828, 0x28282828);
        due("the 512th", true, x.end(20));
        sentence("public static final int NONE = -1;");
        due("NONE", -1, FlowApply.NONE);
    }

    // ---- exceptions

    private static void severalExceptions() {
        sentence("Of several exceptions the one told first is thrown");
        Subject x = of(SAMPLE);
        for (int not : new int[] {LEAST, -1, 99, MOST}) {
            thrown(BEYOND, "function", () -> x.function(not, not));
            thrown(BEYOND, "field", () -> x.field(not, not));
            thrown(BEYOND, "site", () -> x.site(not, not));
            thrown(NONE_SUCH, "split", () -> x.split(not, not));
            thrown(ILLEGAL, "group", () -> x.group(not, not, true));
            thrown(ILLEGAL, "group", () -> x.group(not, not, false));
            thrown(ILLEGAL, "run", () -> x.run(not, not));
        }
        thrown(NONE_SUCH, "split 3", () -> x.split(3, 5));
        thrown(ILLEGAL, "group of split 3", () -> x.group(3, 0, true));
        thrown(ILLEGAL, "run 4", () -> x.run(4, 5));
        due("a text that is wrong, and does not TYPE ahead of that", ILLEGAL, Checks.read(new Subject(), "1 1)"));
    }

    private static void changesNothing(String want, Function<Subject, Object> call) {
        Subject x = full();
        thrown(want, "a call", () -> call.apply(x));
        due("all but the text", state(full()), state(x));
        due("the TAPE", 40, x.feed(0, 0, 0, 0, 0));
        due("THE PROGRAM", Sentences.show(of(SAMPLE)), Sentences.show(x));
    }

    /** With a fault, something SHOWN, twenty bytes on the TAPE. */
    private static Subject full() {
        Subject x = alone(SAMPLE);
        Checks.read(x, "1+)");
        x.type(0);
        x.feed(0x31202020, 0x20202020, 0x20202020, 0x20202020, 0x20202020);
        return x;
    }

    private static void throwsChangeNothing() {
        sentence("a call that throws changes nothing");
        changesNothing(BEYOND, x -> x.function(5, 0));
        changesNothing(NONE_SUCH, x -> x.function(0, 13));
        changesNothing(BEYOND, x -> x.field(5, 0));
        changesNothing(NONE_SUCH, x -> x.field(1, 1));
        changesNothing(BEYOND, x -> x.type(5));
        changesNothing(BEYOND, x -> x.type(-1));
        changesNothing(BEYOND, x -> x.alike(0, 5));
        changesNothing(BEYOND, x -> x.site(6, 0));
        changesNothing(NONE_SUCH, x -> x.site(0, 7));
        changesNothing(NONE_SUCH, x -> x.split(0, 5));
        changesNothing(ILLEGAL, x -> x.split(3, 0));
        changesNothing(ILLEGAL, x -> x.group(3, 0, false));
        changesNothing(NONE_SUCH, x -> x.group(0, 1, true));
        changesNothing(ILLEGAL, x -> x.run(4, 0));
        changesNothing(NONE_SUCH, x -> x.run(0, 5));
        changesNothing(ILLEGAL, x -> x.blame(4, 0));
        changesNothing(ILLEGAL, x -> x.form(3));
        changesNothing(BEYOND, x -> x.ring(0));
        changesNothing(BEYOND, x -> x.far(0, 5));
    }

    private static void readsThatThrow() {
        sentence("but the TAPE, where it is used up, and fault(), where a text is read.");
        for (String text : new String[] {"fun f x=x;fun h y=\\a.\\b.(f 1", "fun f x=1;f f f", "", "\\x.x x"}) {
            boolean types = text.startsWith("fun f x=x") || text.isEmpty();
            Subject x = alone(SAMPLE);
            x.typeOfMain();
            Subject y = of(SAMPLE);
            y.typeOfMain();
            due("a read of " + text, types ? ILLEGAL : CANNOT, Checks.read(x, text));
            due("fault()", types ? text.length() : -1, x.fault());
            due("all but the fault", behindFault(state(y)), behindFault(state(x)));
            due("the TAPE is used up", 20, x.feed(0, 0, 0, 0, 0));
            due("THE PROGRAM", Sentences.show(of(SAMPLE)), Sentences.show(x));
            Subject z = alone(SAMPLE);
            Checks.read(z, text);
            due("BACK", Sentences.back(SAMPLE), Checks.told(z, z::back));
        }
    }

    private static String behindFault(String state) { return state.substring(state.indexOf(';')); }

    private static void exceptionsByKind() {
        sentence("IndexOutOfBoundsException: there is no such FUNCTION, SITE, RING.");
        Subject x = of("fun l x=l x;fun m x=m (l x);dead (m 1)");
        for (int not : new int[] {LEAST, -1, MOST}) {
            thrown(BEYOND, "FUNCTION " + not, () -> x.function(not, 0));
            thrown(BEYOND, "FUNCTION " + not, () -> x.field(not, 0));
            thrown(BEYOND, "FUNCTION " + not, () -> x.type(not));
            thrown(BEYOND, "FUNCTION " + not, () -> x.alike(not, 0));
            thrown(BEYOND, "FUNCTION " + not, () -> x.alike(0, not));
            thrown(BEYOND, "FUNCTION " + not, () -> x.far(not, 0));
            thrown(BEYOND, "FUNCTION " + not, () -> x.far(0, not));
            thrown(BEYOND, "SITE " + not, () -> x.site(not, 0));
            thrown(BEYOND, "RING " + not, () -> x.ring(not));
        }
        due("FUNCTIONS", "-1 -1 " + BEYOND, Sentences.row(3, f -> x.function(f, 0)));
        due("FUNCTIONS of field", NONE_SUCH + " " + NONE_SUCH + " " + BEYOND, Sentences.row(3, f -> x.field(f, 0)));
        due("FUNCTIONS of type", "5 5 " + BEYOND, Sentences.row(3, x::type));
        due("FUNCTIONS of alike", "true false " + BEYOND, Sentences.row(3, f -> x.alike(0, f)));
        due("FUNCTIONS of alike, first", "false true " + BEYOND, Sentences.row(3, f -> x.alike(f, 1)));
        due("FUNCTIONS of far", "1 0 " + BEYOND, Sentences.row(3, f -> x.far(1, f)));
        due("FUNCTIONS of far, first", "0 1 " + BEYOND, Sentences.row(3, f -> x.far(f, 0)));
        due("SITES", "0 1 1 -1 -1 " + BEYOND, Sentences.row(6, site -> x.site(site, 0)));
        due("RINGS", "1 2 " + BEYOND, Sentences.row(3, x::ring));
        sentence("IllegalArgumentException: a number is none; a text is wrong.");
        for (int not : new int[] {LEAST, -1, 3, MOST}) {
            thrown(ILLEGAL, "split " + not, () -> x.split(not, 0));
            thrown(ILLEGAL, "split " + not, () -> x.group(not, 0, true));
            thrown(ILLEGAL, "split " + not, () -> x.form(not));
        }
        for (int not : new int[] {LEAST, -1, 4, MOST}) {
            thrown(ILLEGAL, "how " + not, () -> x.run(not, 0));
            thrown(ILLEGAL, "how " + not, () -> x.blame(not, 0));
        }
        due("a text", ILLEGAL, Checks.read(x, "1+"));
        sentence("IllegalStateException: it cannot be.");
        due("it does not TYPE", CANNOT, Checks.read(x, "1 1"));
        sentence("Sets of FUNCTIONS are bits.");
        StringBuilder most = new StringBuilder();
        for (char c = 'a'; c <= 'f'; c++) most.append("fun ").append(c).append(" x=x;");
        most.append("dead a b c d e f").append(times(18, " (\\x.x)"));
        Subject y = of(most.toString());
        due("24 of them are MADE", 0xffffff, y.count(5));
        due("one GROUP", 0xffffff, y.group(0, 0, false));
        due("the last GROUP", 1 << 23, y.group(2, 23, false));
        due("the last as an argument", 1 << 23, y.site(23, 2));
        thrown(BEYOND, "a 25th", () -> y.function(24, 0));
    }

    private static void shownAtFirst() {
        sentence("At first THE PROGRAM is dead alone.");
        Subject x = new Subject();
        due("counts", "0 0 0 1 0 0 0 0 0 0 0 0 1 -1", Sentences.row(14, x::count));
        due("runs", "3 0 0 0 0", Sentences.runRow(x, 0));
        due("runs of the form", "3 0 0 0 0", Sentences.runRow(x, 3));
        due("splits", "0 0 0 0 0", Sentences.splitRow(x, 1));
        due("show", "dead", Checks.told(x, x::show));
        due("back", "dead", Checks.told(x, x::back));
        due("form", "dead", Checks.told(x, () -> x.form(0)));
        due("the TYPE of MAIN", "a", Checks.told(x, x::typeOfMain));
        due("take", 0, x.take());
        thrown(BEYOND, "no FUNCTION", () -> x.function(0, 0));
        thrown(BEYOND, "no SITE", () -> x.site(0, 0));
        thrown(BEYOND, "no RING", () -> x.ring(0));
        thrown(NONE_SUCH, "no GROUP", () -> x.group(0, 0, false));
        sentence("What is SHOWN is what was written last (nothing at first, and behind read(), take() that were done).");
        Subject y = new Subject();
        due("nothing at first", "", Checks.shown(y));
        y.show();
        due("what was written", "dead", Checks.shown(y));
        Checks.read(y, "let k=1 in \\x.x+k");
        due("nothing behind read()", "", Checks.shown(y));
        y.typeOfMain();
        y.field(0, 0);
        due("the last", "k", Checks.shown(y));
        y.type(0);
        due("the last", "(i>i)", Checks.shown(y));
        y.form(0);
        due("the last", "(let k=1 in C0(k))", Checks.shown(y));
        y.back();
        due("the last", "(let k=1 in (\\x.dead))", Checks.shown(y));
        Checks.read(y, "(");
        due("it stays behind a read() that threw", "(let k=1 in (\\x.dead))", Checks.shown(y));
        Checks.read(y, "1 1");
        due("it stays behind a read() that threw", "(let k=1 in (\\x.dead))", Checks.shown(y));
        y.count(12);
        y.run(0, 0);
        y.split(0, 0);
        due("it stays behind what writes nothing", "(let k=1 in (\\x.dead))", Checks.shown(y));
        y.take();
        due("nothing behind take()", "", Checks.shown(y));
    }

    // ---- Promises 2 to 5

    private static void feed() {
        sentence("Twenty bytes come behind the TAPE, of each number the highest first: how many it has");
        Subject x = new Subject();
        due("the first", 20, x.feed(0x5c61202e, 0x0a092062, 0x20000000, 0, 0));
        due("cut", true, x.end(8));
        due("behind the TAPE", 28, x.feed(0x2c000000, 0, 0, 0, 0));
        x.end(9);
        due("wrong at", ILLEGAL, Checks.answer(x::read));
        due("the first that is wrong", 7, x.fault());
        x.feed(0x312b322a, 0x28332d34, 0x292f3520, 0x3c363738, 0x39202020);
        due("all twenty", 0, x.read());
        due("the highest first", "((1+((2*(3-4))/5))<6789)", Sentences.show(x));
        x.feed(0xff202020, 0x80808080, 0, 0, 0);
        thrown(ILLEGAL, "bytes from 128 on", x::read);
        due("they are no BLANKS", 0, x.fault());
        sentence("NONE, and none come, if it would have more than 400.");
        Subject y = new Subject();
        for (int k = 1; k <= 20; k++) due("feed " + k, 20 * k, y.feed(0x20202020, 0x20202020, 0x20202020, 0x20202020, 0x20202020));
        due("a 21st", -1, y.feed(0x31313131, 0x31313131, 0x31313131, 0x31313131, 0x31313131));
        due("none came", false, y.end(401));
        due("381", true, y.end(381));
        due("401 is more", -1, y.feed(0x31202020, 0x20202020, 0x20202020, 0x20202020, 0x20202020));
        due("none came", false, y.end(382));
        due("380", true, y.end(380));
        due("400 is not", 400, y.feed(0x31202020, 0x20202020, 0x20202020, 0x20202020, 0x20202020));
        due("it is read", 0, y.read());
        due("what came", "1", Sentences.show(y));
    }

    private static void end() {
        sentence("The TAPE has its first n bytes alone: true");
        Subject x = new Subject();
        Checks.feed(x, Checks.bytes("12+34+56+78+90+12+34"));
        due("all of them", true, x.end(20));
        due("five", true, x.end(5));
        due("none behind the five", false, x.end(6));
        x.read();
        due("the first five", "(12+34)", Sentences.show(x));
        Checks.feed(x, Checks.bytes("12+34+56+78+90+12+34"));
        due("none", true, x.end(0));
        due("it begins anew", 20, x.feed(0, 0, 0, 0, 0));
        due("0 of none", true, new Subject().end(0));
        sentence("false, and nothing happens, if it has fewer, or n is below 0.");
        Checks.read(x, "1");
        Checks.feed(x, Checks.bytes("12+34+56+78+90"));
        for (int not : new int[] {LEAST, -1, 15, 16, 20, 400, MOST}) due("end " + not, false, x.end(not));
        due("nothing happened", 0, x.read());
        due("all fourteen", "((((12+34)+56)+78)+90)", Sentences.show(x));
        due("1 of none", false, x.end(1));
        due("-1 of none", false, x.end(-1));
    }

    private static void read() {
        sentence("Uses the TAPE up: it is THE PROGRAM: how many FUNCTIONS.");
        Subject x = new Subject();
        due("two GLOBALS, three LAMBDAS", 5, Checks.read(x, "fun f x=\\y.x;fun g x=x;dead (\\z.z) (\\w.w)"));
        due("the TAPE is used up", false, x.end(1));
        due("no FUNCTIONS", 0, Checks.read(x, "1"));
        thrown(ILLEGAL, "an empty TAPE", x::read);
        due("the fault of no bytes", 0, x.fault());
        sentence("IllegalArgumentException: the text is wrong; IllegalStateException: it does not TYPE.");
        due("a text that is wrong", ILLEGAL, Checks.read(x, "1+"));
        due("one that does not TYPE", CANNOT, Checks.read(x, "1+(\\x.x)"));
        due("one that is right", 1, Checks.read(x, "\\x.x"));
    }

    private static Subject behind(String first, String text) {
        Subject x = alone(first);
        x.take();
        for (int how = 0; how < 4; how++) x.run(how, 0);
        Checks.read(x, "fun f x=\\a.\\b.let c=1 in (x");
        Checks.read(x, "(\\x.x x) 1 2 3");
        Checks.read(x, first);
        x.form(0);
        Checks.read(x, text);
        return x;
    }

    /** What is read is as it is on a new object, whatever was read, run and thrown ahead of it. */
    private static void readBehindOthers() {
        sentence("Uses the TAPE up: it is THE PROGRAM");
        String[] texts = {SAMPLE, "1", "fun f x=f (f x);\\a.\\b.\\c.f (a+b+c)", "dead (\\x.x) 1 2",
            "let a=\\x.x+1 in let b=\\y.y*2 in (if 1 then a else b) 3", "fun l x=l x;l 0", "(\\x.x/0) 1+(\\y.\\z.y) 2 3"};
        for (String first : texts) {
            for (String text : texts) {
                Subject y = of(text);
                due("state of " + text + " behind " + first, state(y), state(behind(first, text)));
                Subject x = behind(first, text);
                due("form", Checks.told(y, () -> y.form(2)), Checks.told(x, () -> x.form(2)));
                due("TYPE of MAIN", Checks.told(y, y::typeOfMain), Checks.told(x, x::typeOfMain));
                due("back", Checks.told(y, y::back), Checks.told(x, x::back));
            }
        }
        // many of them: each has its own 100 THINGS, 18 LAMBDAS, 20 within one another
        Subject z = new Subject(true);
        for (int k = 0; k < 12; k++) {
            due("a text of lets", 1, Checks.read(z, times(18, "let a=1 in ") + "\\x.(a)"));
            due("a wrong one", ILLEGAL, Checks.read(z, times(10, "(") + times(9, "let b=2 in ") + "\\c.c b c"));
        }
        due("the run of the last", "1 0 0 0 0", Sentences.runRow(z, 0));
        due("its BACK", (times(18, "(let a=1 in ") + "(\\x.dead)" + times(18, ")")).length(), z.back());
    }

    private static void fault() {
        sentence("THE FAULT of the latest read(); NONE without one, and ahead of any.");
        Subject x = new Subject();
        due("ahead of any", -1, x.fault());
        Checks.read(x, "1+");
        due("of the latest", 2, x.fault());
        Checks.read(x, "1+2+)");
        due("of the latest", 4, x.fault());
        x.show();
        x.feed(0, 0, 0, 0, 0);
        x.end(0);
        x.take();
        due("other calls leave it", 4, x.fault());
        Checks.read(x, "1 1");
        due("none of one that does not TYPE", -1, x.fault());
        Checks.read(x, ")");
        due("at the first byte", 0, x.fault());
        Checks.read(x, "1");
        due("none of a right one", -1, x.fault());
    }

    // ---- Promises 6 to 11

    private static void function() {
        // f 0; the LAMBDAS: x 1, y 2, z 3, w 4
        Subject x = of(SAMPLE);
        sentence("Of a FUNCTION what 0 its HOME (NONE: MAIN; GLOBALS, too), 1 1 if it is a GLOBAL, 2 1 if MADE, 3 1 if CALLED");
        due("HOMES", "-1 -1 -1 -1 -1", Sentences.row(5, f -> x.function(f, 0)));
        due("HOMES of LAMBDAS within", "-1 0 1 -1", Sentences.row(4, f -> of("fun f x=\\y.\\z.1;\\w.2").function(f, 0)));
        due("GLOBALS", "1 0 0 0 0", Sentences.row(5, f -> x.function(f, 1)));
        due("MADE", "1 1 1 1 1", Sentences.row(5, f -> x.function(f, 2)));
        due("not MADE", "0 0 0 1", Sentences.row(4, f -> of("fun f x=\\y.\\z.1;\\w.2").function(f, 2)));
        due("CALLED", "1 1 1 1 0", Sentences.row(5, f -> x.function(f, 3)));
        sentence("4 what its VAR has (bits; 0 if it is not CALLED), 5 what comes of its EXPR (bits; 0 likewise)");
        due("VARS", "10 0 8 0 0", Sentences.row(5, f -> x.function(f, 4)));
        Subject y = of("fun f x=\\y.x;fun g x=f x;f 1");
        due("of EXPR that is not LOOKED at", "4 0 0", Sentences.row(3, f -> y.function(f, 5)));
        Subject z = of("let i=\\x.x in \\y.i (\\z.z)");
        due("nothing is CALLED", "0 0 0", Sentences.row(3, f -> z.function(f, 4)));
        due("nothing comes", "0 0 0", Sentences.row(3, f -> z.function(f, 5)));
        sentence("6 how many FIELDS, 7 its GROUP by split 2 (NONE), 8 by split 1 (NONE), 9 CALLS (bits), 10 its RING (NONE)");
        due("FIELDS", "0 1 0 0 0", Sentences.row(5, f -> x.function(f, 6)));
        due("GROUPS by split 2", "0 1 2 1 3", Sentences.row(5, f -> x.function(f, 7)));
        due("GROUPS by split 1", "0 1 0 1 2", Sentences.row(5, f -> x.function(f, 8)));
        due("of those that are not MADE", "-1 -1 -1 0", Sentences.row(4, f -> of("fun f x=\\y.\\z.1;\\w.2").function(f, 7)));
        due("of those that are not MADE", "-1 -1 -1 0", Sentences.row(4, f -> of("fun f x=\\y.\\z.1;\\w.2").function(f, 8)));
        due("CALLS", "10 0 1 0 0", Sentences.row(5, f -> x.function(f, 9)));
        due("no RING", "-1 -1 -1 -1 -1", Sentences.row(5, f -> x.function(f, 10)));
        due("RINGS", "0 -1 1", Sentences.row(3, f -> of("fun a x=a x;fun b x=x;fun c x=c (b x);c (a 1)").function(f, 10)));
        sentence("11 1 if it ESCAPES, 12 SITES at which it comes as what is applied.");
        due("nothing ESCAPES", "0 0 0 0 0", Sentences.row(5, f -> x.function(f, 11)));
        due("what ESCAPES", "0 1 0", Sentences.row(3, f -> of("(\\x.\\y.\\z.1) 1").function(f, 11)));
        due("how many SITES", "2 2 1 2 0", Sentences.row(5, f -> x.function(f, 12)));
        sentence("NoSuchElementException: another what.");
        for (int what : new int[] {LEAST, -1, 13, 14, MOST}) thrown(NONE_SUCH, "function", () -> x.function(0, what));
        for (int what : new int[] {LEAST, -1, 7, 8, MOST}) thrown(NONE_SUCH, "site", () -> x.site(0, what));
        for (int what : new int[] {LEAST, -1, 5, 6, MOST}) thrown(NONE_SUCH, "split", () -> x.split(0, what));
        for (int what : new int[] {LEAST, -1, 5, 6, MOST}) thrown(NONE_SUCH, "run", () -> x.run(0, what));
    }

    private static void field() {
        sentence("The k-th FIELD of a FUNCTION is SHOWN (its name): how many bytes. NoSuchElementException: there is none such.");
        Subject x = of("let a=1 in let bc=2 in let def=3 in let ghij=4 in \\x.ghij+def+bc+a");
        due("how many bytes", "4 3 2 1 " + NONE_SUCH, Sentences.row(5, k -> x.field(0, k)));
        due("the names", "ghij def bc a", Sentences.fieldRow(x, 0));
        for (int not : new int[] {LEAST, -1, 4, MOST}) thrown(NONE_SUCH, "FIELD " + not, () -> x.field(0, not));
        thrown(NONE_SUCH, "none of one without", () -> of("\\x.x").field(0, 0));
        thrown(NONE_SUCH, "none of a GLOBAL", () -> of("fun f x=x;1").field(0, 0));
    }

    private static void type() {
        sentence("The TYPE of a FUNCTION is SHOWN: how many bytes.");
        Subject x = of("fun f x=\\y.x+y;\\z.z");
        due("how many bytes", "9 5 5 " + BEYOND, Sentences.row(4, x::type));
        due("of one that is not MADE", "(i>(i>i))", Checks.told(x, () -> x.type(0)));
        due("of one that is open", "(a>a)", Checks.told(x, () -> x.type(2)));
        sentence("The TYPE of MAIN is SHOWN: how many bytes.");
        due("a FUNCTION's", 5, x.typeOfMain());
        due("of one that ESCAPES", "(a>a)", Checks.shown(x));
        due("a NUMBER's", "i", Sentences.typeOfMain("1"));
        due("open", "a", Sentences.typeOfMain("dead"));
    }

    private static void alike() {
        sentence("Whether two FUNCTIONS have one TYPE.");
        // f: (i>i); \y: (i>(i>i)); \z: (i>i); \w: ((i>i)>i)
        Subject x = of("fun f x=x+1;dead (\\y.\\z.y+z) (\\w.w 1+1)");
        due("f", "true false true false", Sentences.row(4, g -> x.alike(0, g)));
        due("\\y", "false true false false", Sentences.row(4, g -> x.alike(1, g)));
        due("\\w", "false false false true", Sentences.row(4, g -> x.alike(3, g)));
        // TYPES that are told in more bytes than can be counted, and differ by what comes last
        String many = times(7, "(\\p.\\f.f p p)(") + "1" + times(7, ")");
        Subject y = of(many);
        due("each with itself alone", "true false false", Sentences.row(3, g -> y.alike(0, g)));
    }

    private static void site() {
        sentence("Of a SITE what 0 its HOME, 1 what comes as what is applied (bits; 0 if it is not LOOKED at),"
            + " 2 as the argument, 3 of it, 4 its APPLY by split 2 (the GROUP; NONE), 5 1 if KNOWN, 6 1 if LOOKED at.");
        Subject x = of(SAMPLE);
        due("g 1", "0 10 0 0 1 0 1", Sentences.siteRow(x, 0));
        due("f of \\x", "-1 1 2 0 0 1 1", Sentences.siteRow(x, 2));
        due("\\y of \\z", "-1 4 8 0 2 1 1", Sentences.siteRow(x, 4));
        due("f y", "2 1 8 0 0 1 1", Sentences.siteRow(x, 3));
        due("dead of \\w", "-1 0 16 0 -1 0 1", Sentences.siteRow(x, 5));
        due("what is not LOOKED at", "0 0 0 0 -1 0 0", Sentences.siteRow(of("\\x.(\\y.y) (\\z.z)"), 0));
        due("nor in a GLOBAL that is not CALLED", "0 0 0 0 -1 0 0", Sentences.siteRow(of("fun f x=f (\\y.y);f"), 0));
    }

    // ---- Promises 12 to 15

    private static void split() {
        sentence("Of split 0 to 2 what 0 GROUPS, 1 GROUPS that have CASES, 2 CASES of all, 3 the most of one,"
            + " 4 FUNCTIONS that are MADE and are no CASE.");
        Subject x = of(SAMPLE);
        // f, \y | \x, \z | \w by TYPES; f | \x, \z | \y | \w by SITES
        due("split 0", "1 1 4 4 1", Sentences.splitRow(x, 0));
        due("split 1", "3 2 4 2 1", Sentences.splitRow(x, 1));
        due("split 2", "4 3 4 2 1", Sentences.splitRow(x, 2));
        for (int split = 0; split < 3; split++) {
            due("without FUNCTIONS", "0 0 0 0 0", Sentences.splitRow(of("1"), split));
            due("without CASES", "1 0 0 0 1", Sentences.splitRow(of("\\x.x"), split));
            due("all CASES", "1 1 1 1 0", Sentences.splitRow(of("(\\x.x) 1"), split));
        }
    }

    private static void group() {
        sentence("FUNCTIONS of the k-th GROUP (cases false), or its CASES.");
        Subject x = of(SAMPLE);
        due("split 0", "31", Sentences.groupRow(x, 0));
        due("split 1", "5 10 16", Sentences.groupRow(x, 1));
        due("split 2", "1 10 4 16", Sentences.groupRow(x, 2));
        due("CASES of split 0", "15", Sentences.caseRow(x, 0));
        due("CASES of split 1", "5 10 0", Sentences.caseRow(x, 1));
        due("CASES of split 2", "1 10 4 0", Sentences.caseRow(x, 2));
        sentence("IllegalArgumentException: the split is none; NoSuchElementException: there is none such.");
        int[] many = {1, 3, 4};
        for (int split = 0; split < 3; split++) {
            for (int not : new int[] {LEAST, -1, many[split], many[split] + 1, 72, MOST}) {
                int at = split;
                thrown(NONE_SUCH, "GROUP " + not + " of " + split, () -> x.group(at, not, true));
                thrown(NONE_SUCH, "GROUP " + not + " of " + split, () -> x.group(at, not, false));
            }
        }
        for (int not : new int[] {LEAST, -1, 3, MOST}) thrown(ILLEGAL, "split " + not, () -> x.group(not, 0, false));
    }

    private static void run() {
        sentence("RUN of the program (how 0), of its FORM by split how less 1 (1 to 3), what 0 how it ends,"
            + " 1 the NUMBER or the FUNCTION (0 else), 2 STEPS, 3 DEEP, 4 FUNCTIONS that were entered (bits).");
        Sentences.runsBlaming("2 0 7 3 15", "0 2", SAMPLE);
        Sentences.runs("0 5 0 0 0", "5");
        Sentences.runs("1 1 1 1 1", "fun f x=\\y.y;f 1");
        Sentences.runs("2 0 0 0 0", "7+1/0");
        Sentences.runs("3 0 0 0 0", "7+dead");
        Sentences.runs("4 0 100 100 1", "fun l x=7+l 7;l 7");
        Sentences.runs("0 7 1 1 8388608", last());
    }

    /** A run is as on a new object, however many went wrong ahead of it. */
    private static void runBehindOthers() {
        sentence("2 STEPS, 3 DEEP, 4 FUNCTIONS that were entered (bits).");
        // a run that ends with much that waits: in each of a hundred calls sums whose right sides are not done yet
        Subject x = alone("fun f x=" + times(19, "1+1*(") + "f x" + times(19, ")") + ";f 1");
        for (int k = 0; k < 100; k++) due("what waits", 4, x.run(k % 4, 0));
        due("the 101st run", "4 0 100 100 1", Sentences.runRow(x, 0));
        due("one behind it", 1, Checks.read(x, "(\\x.1+x*2) 3"));
        due("one behind it", "0 7 1 1 1", Sentences.runRow(x, 0));
        due("nothing entered", 0, Checks.read(x, "5"));
        due("nothing entered", "0 5 0 0 0", Sentences.runRow(x, 0));
        due("no NUMBER", 0, Checks.read(x, "dead"));
        due("no NUMBER", "3 0 0 0 0", Sentences.runRow(x, 0));
        due("a read that throws", ILLEGAL, Checks.read(x, "1+"));
        due("it is as it was", "3 0 0 0 0", Sentences.runRow(x, 0));
    }

    /** The last of 24 FUNCTIONS is entered. */
    private static String last() {
        StringBuilder text = new StringBuilder();
        for (char c = 'a'; c <= 'f'; c++) text.append("fun ").append(c).append(" x=x;");
        for (int k = 0; k < 16; k++) text.append("let v=\\x.x in ");
        return text.append("let v=\\x.x in (\\y.y) 7").toString();
    }

    private static void blame() {
        sentence("BLAME of that RUN: the k-th FUNCTION; NONE without.");
        Subject x = of("(\\x.(\\y.y/0) x) 3");
        for (int how = 0; how < 4; how++) {
            int at = how;
            due("of " + how, "1 0 -1", Sentences.row(3, k -> x.blame(at, k)));
            for (int not : new int[] {LEAST, -1, 2, 100, MOST}) due("NONE", -1, x.blame(at, not));
        }
        Subject y = of("fun l x=l x;l 0");
        due("the 100th", "0 0 -1 -1", Sentences.row(4, k -> y.blame(2, 98 + k)));
        due("NONE of a NUMBER", -1, of("(\\x.x) 1").blame(0, 0));
        due("NONE of a FUNCTION", -1, of("(\\x.\\y.x) 1").blame(1, 0));
        due("NONE where nothing was entered", -1, of("1/0").blame(2, 0));
        sentence("IllegalArgumentException: how is none.");
        for (int not : new int[] {LEAST, -1, 4, MOST}) {
            thrown(ILLEGAL, "how " + not, () -> x.blame(not, 0));
            thrown(ILLEGAL, "how " + not, () -> x.run(not, 0));
        }
    }

    // ---- Promises 16 to 19

    private static void shownByCalls() {
        Subject x = of("fun f x=x;fun g x=\\y.x;g 1");
        sentence("THE FORM by a split is SHOWN: how many bytes. IllegalArgumentException: the split is none.");
        due("bytes", 26, x.form(0));
        due("SHOWN", "a0:{C1()x.C2(x)}a0(C1(),1)", Checks.shown(x));
        due("of each split", "26 26 26 " + ILLEGAL, Sentences.row(4, x::form));
        thrown(ILLEGAL, "split -1", () -> x.form(-1));
        sentence("BACK is SHOWN: how many bytes.");
        due("bytes", 23, x.back());
        due("SHOWN", "fun g x=(\\y.dead);(g 1)", Checks.shown(x));
        sentence("The program is SHOWN: how many bytes.");
        due("bytes", 30, x.show());
        due("SHOWN", "fun f x=x;fun g x=(\\y.x);(g 1)", Checks.shown(x));
        // more than 400 bytes
        due("far more than a text has", 50 + 3 * 49, of(times(49, "1+") + "1").show());
    }

    private static void take() {
        sentence("BACK is THE PROGRAM now: how many FUNCTIONS.");
        String text = "fun f x=x;fun g x=\\y.(\\z.z) x;fun h x=g x;dead h (g 1)";
        String back = "fun g x=(\\y.dead);fun h x=dead;((dead h) (g 1))";
        due("BACK", back, Sentences.back(text));
        Subject y = of(back);
        y.show();
        for (int many = 1; many <= 3; many++) {
            Subject x = alone(text);
            due("ahead", 5, x.count(0) + x.count(1));
            for (int k = 0; k < many; k++) due("how many", 3, x.take());
            due("THE PROGRAM", back, Sentences.show(x));
            due("all as of that text", state(y), state(x));
        }
        Subject z = alone(text);
        Checks.read(z, "1+)");
        z.feed(0x20202037, 0x20202020, 0x20202020, 0x20202020, 0x20202020);
        z.take();
        due("the fault is of the latest read", 2, z.fault());
        due("the TAPE is left", 0, z.read());
        due("what it was", "7", Sentences.show(z));
        for (int how = 0; how < 4; how++) {
            Subject w = alone("fun f x=x;fun g x=\\y.x;g 1");
            due("the run ahead", "1 2 1 1 2", Sentences.runRow(w, how));
            w.take();
            due("the run of BACK", "1 1 1 1 1", Sentences.runRow(w, how));
        }
        due("none is left", 0, of("fun f x=x;1").take());
        due("all are left", 2, of("fun f x=x;f ((\\y.y) 1)").take());
    }

    // ---- Promises 20 to 23

    private static void ring() {
        sentence("FUNCTIONS of a RING, as bits.");
        Subject x = of("fun a x=(\\y.a y) x;fun b x=b (a x);b 1");
        due("RINGS", "5 2 " + BEYOND, Sentences.row(3, x::ring));
        thrown(BEYOND, "RING -1", () -> x.ring(-1));
        thrown(BEYOND, "none without", () -> of("(\\x.x) 1").ring(0));
    }

    private static void far() {
        sentence("By how many CALLS at least one comes from one FUNCTION to another one (0: itself); NONE: never, or one is not CALLED.");
        // a CALLS a and b, b CALLS c and d, c CALLS d; e is not CALLED; f CALLS none and is CALLED by MAIN alone
        Subject x = of("fun d x=x;fun c x=d x;fun b x=c (d x);fun a x=a (b x);fun e x=a x;fun f x=x;a (f 1)");
        due("from a", "2 2 1 0 -1 -1", Sentences.row(6, g -> x.far(3, g)));
        due("from b", "1 1 0 -1 -1 -1", Sentences.row(6, g -> x.far(2, g)));
        due("from d", "0 -1 -1 -1 -1 -1", Sentences.row(6, g -> x.far(0, g)));
        due("from e", "-1 -1 -1 -1 -1 -1", Sentences.row(6, g -> x.far(4, g)));
        due("to e", "-1 -1 -1 -1 -1 -1", Sentences.row(6, f -> x.far(f, 4)));
        due("from f", "-1 -1 -1 -1 -1 0", Sentences.row(6, g -> x.far(5, g)));
        // round a ring
        Subject y = of("fun a x=(\\p.(\\q.(\\r.a r) q) p) x;a 1");
        due("round", "0 1 2 3", Sentences.row(4, g -> y.far(0, g)));
        due("back", "0 3 2 1", Sentences.row(4, f -> y.far(f, 0)));
    }

    private static void octet() {
        sentence("Byte k of what is SHOWN; NONE without.");
        Subject x = of("\\x.1");
        due("nothing SHOWN", -1, x.octet(0));
        x.show();
        due("bytes", "40 92 120 46 49 41 -1 -1", Sentences.row(8, x::octet));
        for (int not : new int[] {LEAST, -1, 6, 7000, MOST}) due("byte " + not, -1, x.octet(not));
        x.typeOfMain();
        due("of the last", "40 97 62 105 41 -1", Sentences.row(6, x::octet));
        x.take();
        due("nothing SHOWN", -1, x.octet(0));
    }

    private static void count() {
        sentence("0 GLOBALS, 1 LAMBDAS, 2 SITES, 3 THINGS, 4 what ESCAPES (bits), 5 MADE (bits), 6 CALLED (bits),"
            + " 7 SITES LOOKED at, 8 KNOWN, 9 RINGS, 10 bytes SHOWN, 11 FIELDS of all that are MADE, 12 THINGS of BACK.");
        Subject x = of("fun l x=l x;fun n x=n x;let k=1 in (\\a.\\b.a+b+k) (l k)");
        due("all", "2 2 4 19 8 13 5 3 3 1 0 3 12", Sentences.row(13, x::count));
        x.form(0);
        due("bytes SHOWN", Checks.shown(x).length(), x.count(10));
        due("none MADE", 0, of("fun f x=\\y.x;1").count(11));
        due("THINGS of a BACK that is less", 2, of("\\x.x+1").count(12));
        due("THINGS of a BACK that is the same", 4, of("(\\x.x) 1").count(12));
        sentence("NONE for another what.");
        for (int not : new int[] {LEAST, -1, 13, 14, MOST}) due("count " + not, -1, x.count(not));
    }
}
