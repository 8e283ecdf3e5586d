import java.util.Arrays;

/** For each promise the ordinary, the edges that the document names, and the wrong: answers worked out by hand. */
public final class PromiseTests {
    private static final String NONE_SUCH = "NoSuchElement";
    private static final String BEYOND = "IndexOutOfBounds";
    private static final String ILLEGAL = "IllegalArgument";
    private static final String CANNOT = "IllegalState";

    public static void main(String[] args) {
        newObject();
        feed();
        end();
        read();
        readGrammar();
        fault();
        faultOfLimits();
        function();
        field();
        type();
        typeOfMain();
        alike();
        site();
        split();
        group();
        run();
        runEnds();
        blame();
        form();
        back();
        show();
        take();
        ring();
        far();
        octet();
        count();
        Checks.close("PromiseTests");
    }

    private static void due(String what, Object want, Object got) { Checks.due(what, want, got); }

    private static int[] functionRow(Subject x, int f) {
        int[] row = new int[13];
        for (int k = 0; k < row.length; k++) row[k] = x.function(f, k);
        return row;
    }

    private static int[] siteRow(Subject x, int s) {
        int[] row = new int[7];
        for (int k = 0; k < row.length; k++) row[k] = x.site(s, k);
        return row;
    }

    private static int[] runRow(Subject x, int how) {
        int[] row = new int[5];
        for (int k = 0; k < row.length; k++) row[k] = x.run(how, k);
        return row;
    }

    private static int[] splitRow(Subject x, int split) {
        int[] row = new int[5];
        for (int k = 0; k < row.length; k++) row[k] = x.split(split, k);
        return row;
    }

    private static void dueRow(String what, int[] got, int... want) { due(what, Arrays.toString(want), Arrays.toString(got)); }

    private static String times(String text, int many) { return text.repeat(many); }

    // ---- Promise 1

    private static void newObject() {
        Subject x = new Subject();
        due("NONE", -1, FlowApply.NONE);
        due("new: count 10", 0, x.count(10));
        due("new: octet 0", -1, x.octet(0));
        due("new: fault", -1, x.fault());
        due("new: show", "dead", Checks.told(x, x::show));
        due("new: back", "dead", Checks.told(x, x::back));
        due("new: form", "dead", Checks.told(x, () -> x.form(2)));
        due("new: main's type", "a", Checks.told(x, x::typeOfMain));
        due("new: no function", BEYOND, Checks.answer(() -> x.function(0, 0)));
        dueRow("new: run", runRow(x, 0), 3, 0, 0, 0, 0);
        due("new: things", 1, x.count(3));
        due("new: take", 0, x.take());
        due("new: the tape is empty", ILLEGAL, Checks.answer(x::read));
        due("new: fault of an empty text", 0, x.fault());
    }

    // ---- Promises 2 and 3

    private static void feed() {
        Subject x = new Subject();
        for (int k = 1; k <= 20; k++) due("feed " + k, k * 20, x.feed(k, k, k, k, k));
        due("feed beyond 400", -1, x.feed(0, 0, 0, 0, 0));
        due("none came", false, x.end(401));
        due("end 381", true, x.end(381));
        due("401 would be too many", -1, x.feed(0, 0, 0, 0, 0));
        due("end 380", true, x.end(380));
        due("just 400", 400, x.feed(0, 0, 0, 0, 0));
        Subject y = new Subject();
        // "1+2*" "(3-4" ") /5" "<678" "9<9 " would be wrong at the second <: cut ahead of it.
        y.feed(0x312b322a, 0x28332d34, 0x29202f35, 0x3c363738, 0x393c3920);
        y.end(17);
        due("the highest byte first", 0, y.read());
        due("the highest byte first, shown", "((1+((2*(3-4))/5))<6789)", Checks.told(y, y::show));
        y.feed(0x80ff2020, 0, 0, 0, 0);
        due("bytes above 127", ILLEGAL, Checks.answer(y::read));
        due("fault there", 0, y.fault());
    }

    private static void end() {
        Subject x = new Subject();
        due("end 0 of nothing", true, x.end(0));
        due("end 1 of nothing", false, x.end(1));
        due("end -1", false, x.end(-1));
        Checks.feed(x, Checks.bytes("12345678901234567890"));
        due("end 21 of 20", false, x.end(21));
        due("end 20 of 20", true, x.end(20));
        due("end -1 of 20", false, x.end(-1));
        due("end least", false, x.end(Integer.MIN_VALUE));
        due("end 3", true, x.end(3));
        due("end 4 of 3", false, x.end(4));
        due("bytes come behind the 3", 23, x.feed(0x20202020, 0x20202020, 0x20202020, 0x20202020, 0x20202020));
        x.read();
        due("the first three alone", "123", Checks.told(x, x::show));
    }

    // ---- Promise 4

    private static void read() {
        Subject x = new Subject();
        due("two functions", 2, Checks.read(x, "fun f g=g 1; f (\\x.x+2)"));
        due("read uses the tape up", 20, x.feed(0, 0, 0, 0, 0));
        x.end(0);
        Checks.told(x, x::show);
        due("wrong", ILLEGAL, Checks.read(x, "fun f g=g 1; f (\\x.y)"));
        due("fault of the wrong", 19, x.fault());
        due("a wrong one uses the tape up", 20, x.feed(0, 0, 0, 0, 0));
        x.end(0);
        due("what is shown stays", "fun f g=(g 1);(f (\\x.(x+2)))", Checks.shown(x));
        due("does not type", CANNOT, Checks.read(x, "1 2"));
        due("no fault then", -1, x.fault());
        due("an untyped one uses the tape up", 20, x.feed(0, 0, 0, 0, 0));
        x.end(0);
        due("the program stays", "fun f g=(g 1);(f (\\x.(x+2)))", Checks.told(x, x::show));
        due("functions stay", 2, x.count(6) == 3 ? x.count(0) + x.count(1) : -5);
        due("read done", 0, Checks.read(x, "7"));
        due("nothing is shown behind read", 0, x.count(10));
        for (String text : new String[] {"\\x.x x", "1+(\\x.x)", "if (\\x.x) then 1 else 2",
            "if 1 then 2 else \\x.x", "(\\x.x) 1 2", "fun f x=f; 1", "let f=\\x.x in f f", "fun f x=x; f 1+f (\\y.y) 2",
            "\\f.f 1+f (\\x.x)", "fun f x=x+1; f f", "let x=1 in x dead", "fun f x=x x; 1", "\\x.\\y.x y+y x"}) {
            due("untyped: " + text, CANNOT, Checks.read(new Subject(), text));
        }
        for (String text : new String[] {"dead dead", "dead+1", "if dead then dead else \\x.x", "fun f x=f x; f 1",
            "let f=\\x.x in f 1+f 2", "let x=\\x.x in x dead", "\\x.\\y.x y", "fun f x=dead; fun g x=f g; 1"}) {
            due("types: " + text, true, Checks.read(new Subject(), text) instanceof Integer);
        }
    }

    private static void shows(String text, String want) {
        Subject x = Checks.of(text);
        due("show of " + text, want, Checks.told(x, x::show));
    }

    private static void readGrammar() {
        shows("1+2-3+4", "(((1+2)-3)+4)");
        shows("1*2/3*4", "(((1*2)/3)*4)");
        shows("1+2*3<4-5/6", "((1+(2*3))<(4-(5/6)))");
        shows("dead 1 2 3", "(((dead 1) 2) 3)");
        shows("dead(1)(2 )\t( \n3)", "(((dead 1) 2) 3)");
        shows("dead1dead 2dead", "((((dead 1) dead) 2) dead)");
        shows("\\x.x+1", "(\\x.(x+1))");
        shows("(\\x.x)1", "((\\x.x) 1)");
        shows("if 1<2then 3else 4+5", "(if (1<2) then 3 else (4+5))");
        shows("let x=let y=1in y in x+x", "(let x=(let y=1 in y) in (x+x))");
        shows("if if 1 then 2 else 3 then let x=4 in x else 5",
            "(if (if 1 then 2 else 3) then (let x=4 in x) else 5)");
        shows("0007+0000+9999", "((7+0)+9999)");
        shows("fun f f=f;fun g x=f x;g 1", "fun f f=f;fun g x=(f x);(g 1)");
        shows("\\x.\\x.x", "(\\x.(\\x.x))");
        shows(" \t\n1 \t\n", "1");
        shows("let lets=1 in 2", "(let lets=1 in 2)");
        shows("(((1)))", "1");
        shows("fun funs x=x;1", "fun funs x=x;1");
    }

    // ---- Promise 5

    private static void faultAt(int at, String text) {
        Subject x = new Subject();
        due("wrong: " + text, ILLEGAL, Checks.read(x, text));
        due("fault of " + text, at, x.fault());
    }

    private static void fault() {
        faultAt(0, "");
        faultAt(3, " \t\n");
        faultAt(0, "x");
        faultAt(0, "A");
        faultAt(2, "1 \r2");
        faultAt(0, "12345");
        faultAt(4, "1 + 12345");
        faultAt(0, "abcde");
        faultAt(1, "\\abcde.1");
        faultAt(4, "fun abcde x=x;1");
        faultAt(6, "fun f abcde=1;1");
        faultAt(2, "1+");
        faultAt(4, "1+  ");
        faultAt(2, "1 )");
        faultAt(2, "(1");
        faultAt(4, "1<2 < 3");
        faultAt(4, "1 1 \\x.x");
        faultAt(2, "1+if 1 then 2 else 3");
        faultAt(4, "1 1 let x=1 in x");
        faultAt(4, "if 1");
        faultAt(5, "if 1 else 2");
        faultAt(5, "if 1 the 2");
        faultAt(11, "if 1 then 2");
        faultAt(4, "let in=1 in 2");
        faultAt(4, "let 1=1 in 2");
        faultAt(6, "let x 1");
        faultAt(7, "let x= x in 1");
        faultAt(12, "let x=1 in (y)");
        faultAt(14, "(let x=1 in x)x");
        faultAt(1, "\\if.1");
        faultAt(1, "\\1.1");
        faultAt(3, "\\x 1");
        faultAt(3, "\\x.");
        faultAt(6, "(\\x.x)x");
        faultAt(0, "then");
        faultAt(0, "=");
        faultAt(0, ";");
        faultAt(4, "fun dead x=1;1");
        faultAt(6, "fun f dead=1;1");
        faultAt(3, "fun");
        faultAt(9, "fun f x=1");
        faultAt(10, "fun f x=1;");
        faultAt(8, "fun f x=;1");
        faultAt(14, "fun f x=x;fun f x=x;1");
        faultAt(10, "fun f x=1;x");
        faultAt(8, "fun f x=g;fun g x=x;1");
        faultAt(2, "1 fun f x=1;1");
        faultAt(19, "fun f x=x;fun g y= x;1");
        Subject x = new Subject();
        Checks.read(x, "1+");
        due("fault of the latest", 2, x.fault());
        Checks.read(x, "1 2");
        due("fault of an untyped one", -1, x.fault());
        Checks.read(x, "(");
        x.take();
        due("fault behind take", 1, x.fault());
        Checks.read(x, "1");
        due("fault behind a good one", -1, x.fault());
    }

    private static void faultOfLimits() {
        StringBuilder seven = new StringBuilder();
        for (char c = 'a'; c <= 'f'; c++) seven.append("fun ").append(c).append(" x=x;");
        shows(seven + "a 1", seven + "(a 1)");
        faultAt(60, seven + "fun g x=x;1");
        faultAt(60, seven + "fun a");
        String wide = times("(\\x.x) ", 17);
        due("18 lambdas", 18, Checks.read(new Subject(), wide + "(\\x.x)"));
        faultAt(wide.length() + 8, wide + "(\\x.x) (\\x.x)");
        shows(times("(", 20) + "1" + times(")", 20), "1");
        faultAt(20, times("(", 21) + "1" + times(")", 21));
        String rest = times(")", 17);
        shows(times("(", 17) + "let x=1 in if 1 then 2 else (3)" + rest,
            "(let x=1 in (if 1 then 2 else 3))");
        faultAt(17 + 28, times("(", 17) + "let x=1 in if 1 then 2 else(\\y.y)" + rest);
        faultAt(17 + 29, times("(", 17) + "let x=1 in if 1 then 2 else ((3))" + rest);
        due("what ended does not nest", 0, Checks.read(new Subject(), times("(1)+", 24) + "(1)"));
        due("an if lies around its ends only", 0,
            Checks.read(new Subject(), times("(if 1 then 1 else 1)-", 12) + "1"));
        String sum = times("1+", 49);
        due("99 things", 99, Checks.of(sum + "1").count(3));
        faultAt(100, sum + "1+1");
        faultAt(102, sum + "1 + 1");
        faultAt(102, "(" + sum + "1)+");
        faultAt(102, "(" + sum + "1)+dead");
        String calls = "dead" + times(" 1", 49);
        due("99 things of sites", 49, Checks.of(calls).count(2));
        faultAt(calls.length() + 1, calls + " 1");
        faultAt(calls.length() + 3, calls + " ((1))");
        String hundred = "\\x." + sum + "1";
        due("100 things", 100, Checks.of(hundred).count(3));
        faultAt(hundred.length(), hundred + "+1");
        faultAt(hundred.length() + 1, hundred + " <1");
        faultAt(hundred.length() + 1, hundred + " (1)");
        faultAt(hundred.length() + 2, hundred + "  x");
        String behind = "let x=" + sum + "1 in ";
        for (String one : new String[] {"1", "x", "dead", "\\y.y", "if x then x else x", "let y=x in y"}) {
            faultAt(behind.length(), behind + one);
            faultAt(behind.length() + 2, behind + "((" + one + "))");
        }
        faultAt(sum.length() + 4, sum + "dead11111");
    }

    // ---- Promises 6 and 7

    private static void function() {
        // FUNCTIONS: f 0, g 1, dbl 2 (never made), then the LAMBDAS of h 3, y 4, z 5, u 6, w 7
        Subject x = Checks.of("fun f h=h 1;fun g y=if y<1 then 0 else g (y-1);fun dbl n=g (n+n);"
            + "let k=5 in (\\h.\\y.h (y+k)) (\\z.z+k) 2 + f g + f (\\u.u) + (if 0 then (\\w.w) else g) 3");
        dueRow("f", functionRow(x, 0), -1, 1, 1, 1, 1 << 1 | 1 << 6, 0, 0, 0, 0, 1 << 1 | 1 << 6, -1, 0, 2);
        dueRow("g", functionRow(x, 1), -1, 1, 1, 1, 0, 0, 0, 1, 1, 1 << 1, 0, 0, 3);
        dueRow("dbl", functionRow(x, 2), -1, 1, 0, 0, 0, 0, 0, -1, -1, 0, -1, 0, 0);
        dueRow("\\h", functionRow(x, 3), -1, 0, 1, 1, 1 << 5, 1 << 4, 1, 2, 2, 0, -1, 0, 1);
        dueRow("\\y", functionRow(x, 4), 3, 0, 1, 1, 0, 0, 2, 3, 1, 1 << 5, -1, 0, 1);
        dueRow("\\z", functionRow(x, 5), -1, 0, 1, 1, 0, 0, 1, 4, 1, 0, -1, 0, 1);
        dueRow("\\u", functionRow(x, 6), -1, 0, 1, 1, 0, 0, 0, 1, 1, 0, -1, 0, 1);
        dueRow("\\w", functionRow(x, 7), -1, 0, 1, 1, 0, 0, 0, 1, 1, 0, -1, 0, 1);
        due("what 13", NONE_SUCH, Checks.answer(() -> x.function(0, 13)));
        due("what -1", NONE_SUCH, Checks.answer(() -> x.function(0, -1)));
        due("function 8", BEYOND, Checks.answer(() -> x.function(8, 0)));
        due("function -1", BEYOND, Checks.answer(() -> x.function(-1, 0)));
        due("function and what", BEYOND, Checks.answer(() -> x.function(8, 13)));
        // A LAMBDA escapes, one within it is not looked at.
        Subject y = Checks.of("if 1 then \\x.\\y.x+y else dead");
        dueRow("escapes", functionRow(y, 0), -1, 0, 1, 0, 0, 0, 0, 0, 0, 0, -1, 1, 0);
        dueRow("not made", functionRow(y, 1), 0, 0, 0, 0, 0, 0, 1, -1, -1, 0, -1, 0, 0);
        // Both ends of an if and what is behind in are looked at, an argument where nothing is applied, too.
        Subject z = Checks.of("if 0 then dead (\\a.a+1) else let b=(\\c.c) in dead");
        due("made everywhere in main", 3, z.count(5));
        due("nothing is called", 0, z.count(6));
        // The argument of one call comes at the other calls of the same function, too.
        Subject w = Checks.of("fun id x=x;(if 1 then id (\\a.a) else id (\\b.b)) 3");
        due("what id has", 6, w.function(0, 4));
        due("what comes of id", 6, w.function(0, 5));
        due("both are called", 7, w.count(6));
    }

    private static void field() {
        Subject x = Checks.of("fun f abcd=\\x.let y=x in \\z.z+y+abcd*y+(\\u.x+u) 1;f 1 2 3");
        due("fields of f", 0, x.function(0, 6));
        due("field of f", NONE_SUCH, Checks.answer(() -> x.field(0, 0)));
        due("fields of \\x", 1, x.function(1, 6));
        due("field 0 of \\x", "abcd", Checks.told(x, () -> x.field(1, 0)));
        due("fields of \\z", 3, x.function(2, 6));
        due("field 0 of \\z", "y", Checks.told(x, () -> x.field(2, 0)));
        due("field 1 of \\z", "abcd", Checks.told(x, () -> x.field(2, 1)));
        due("field 2 of \\z", "x", Checks.told(x, () -> x.field(2, 2)));
        due("field 3 of \\z", NONE_SUCH, Checks.answer(() -> x.field(2, 3)));
        due("what is shown stays", "x", Checks.shown(x));
        due("field -1", NONE_SUCH, Checks.answer(() -> x.field(2, -1)));
        due("field of none", BEYOND, Checks.answer(() -> x.field(4, 9)));
        due("field of -1", BEYOND, Checks.answer(() -> x.field(-1, 0)));
        Subject y = Checks.of("let x=1 in (\\y.(\\x.x+y) x) 2");
        due("an own x and x from outside", 1, y.function(0, 6));
        due("x of the let", "x", Checks.told(y, () -> y.field(0, 0)));
        due("only y", "y", Checks.told(y, () -> y.field(1, 0)));
        due("fields of a lambda that is not made", 1, Checks.of("\\x.\\y.x+y").function(1, 6));
    }

    // ---- Promises 8 to 10

    private static void typesAs(String text, int f, String want) {
        Subject x = Checks.of(text);
        due("type of " + f + " in " + text, want, Checks.told(x, () -> f < 0 ? x.typeOfMain() : x.type(f)));
    }

    private static void type() {
        typesAs("fun f g=g 1;f (\\x.x+2)", 0, "((i>i)>i)");
        typesAs("fun f g=g 1;f (\\x.x+2)", 1, "(i>i)");
        typesAs("\\x.\\y.x", 0, "(a>(b>a))");
        typesAs("\\x.\\y.x", 1, "(a>b)");
        typesAs("\\f.\\g.\\x.f (g x)", 0, "((a>b)>((c>a)>(c>b)))");
        typesAs("fun k x=\\y.x;k 1", 0, "(i>(a>i))");
        typesAs("fun l x=l x;1", 0, "(a>b)");
        typesAs("\\x.if x then x else dead", 0, "(i>i)");
        typesAs("\\x.dead", 0, "(a>b)");
        typesAs("\\x.let y=x in y<1", 0, "(i>i)");
        Subject x = Checks.of("\\x.x");
        due("type of none", BEYOND, Checks.answer(() -> x.type(1)));
        due("type of -1", BEYOND, Checks.answer(() -> x.type(-1)));
        // 18 and more open types: each argument of dead inside has one of its own.
        StringBuilder many = new StringBuilder("\\f.f");
        for (int k = 0; k < 30; k++) many.append(" dead");
        StringBuilder want = new StringBuilder("((");
        for (int k = 0; k < 30; k++) want.append((char) Math.min('a' + k, 'z')).append(k < 29 ? ">(" : ">z");
        want.append(times(")", 30)).append(">z)");
        typesAs(many.toString(), 0, want.toString());
        // let d=\x.\f.f x x in d (d (d .. 1)): a type that is written in far more than 300 bytes
        String pair = "(\\p.\\f.f p p)(";
        Subject y = Checks.of(times(pair, 6) + "1" + times(")", 6));
        due("300 bytes of a long type", 300, y.typeOfMain());
        due("300 bytes shown", 300, Checks.shown(y).length());
        due("300 bytes of a function's", 300, y.type(0));
    }

    private static void typeOfMain() {
        typesAs("dead", -1, "a");
        typesAs("1", -1, "i");
        typesAs("1 < 2", -1, "i");
        typesAs("\\x.\\y.x+y", -1, "(i>(i>i))");
        typesAs("let f=\\x.x in f", -1, "(a>a)");
        typesAs("if 1 then dead else \\x.x 1", -1, "((i>a)>a)");
        typesAs("fun l x=l x;l", -1, "(a>b)");
        typesAs("fun l x=l x;l 0", -1, "a");
        typesAs("dead 1", -1, "a");
    }

    private static void alike() {
        Subject x = Checks.of("fun f x=x+1;fun g h=h 2;g f+g (\\u.u)+(\\v.\\w.v) 1 2");
        due("f and \\u", true, x.alike(0, 2));
        due("f and g", false, x.alike(0, 1));
        due("g and g", true, x.alike(1, 1));
        due("\\v and \\w", false, x.alike(3, 4));
        due("f and \\w", true, x.alike(0, 4));
        due("none", BEYOND, Checks.answer(() -> x.alike(0, 5)));
        due("none first", BEYOND, Checks.answer(() -> x.alike(-1, 0)));
        Subject y = Checks.of("let f=\\x.x in let g=\\y.y in if 1 then \\z.z else g");
        due("open ones that are not one", false, y.alike(0, 1));
        due("open ones that are one", true, y.alike(1, 2));
        String pair = "(\\p.\\f.f p p)(";
        Subject z = Checks.of(times(pair, 6) + "1" + times(")", 6));
        due("large ones", false, z.alike(0, 2));
        due("a large one and itself", true, z.alike(1, 1));
    }

    // ---- Promise 11

    private static void site() {
        Subject x = Checks.of("fun f h=h (h 1);fun no x=f x;(if 1 then f else f) (\\a.a) + f (\\b.b) + dead 1 + dead (\\c.c 1)");
        dueRow("the outer h", siteRow(x, 0), 0, 12, 0, 0, 1, 0, 1);
        dueRow("the inner h", siteRow(x, 1), 0, 12, 0, 0, 1, 0, 1);
        dueRow("in no", siteRow(x, 2), 1, 0, 0, 0, -1, 0, 0);
        dueRow("the if", siteRow(x, 3), -1, 1, 4, 0, 0, 1, 1);
        dueRow("f of b", siteRow(x, 4), -1, 1, 8, 0, 0, 1, 1);
        dueRow("dead of 1", siteRow(x, 5), -1, 0, 0, 0, -1, 0, 1);
        dueRow("dead of \\c", siteRow(x, 6), -1, 0, 16, 0, -1, 0, 1);
        dueRow("c of 1", siteRow(x, 7), 4, 0, 0, 0, -1, 0, 0);
        due("site 8", BEYOND, Checks.answer(() -> x.site(8, 0)));
        due("site -1", BEYOND, Checks.answer(() -> x.site(-1, 0)));
        due("what 7", NONE_SUCH, Checks.answer(() -> x.site(0, 7)));
        due("what -1", NONE_SUCH, Checks.answer(() -> x.site(0, -1)));
        due("site and what", BEYOND, Checks.answer(() -> x.site(8, 7)));
        Subject y = Checks.of("(\\x.x) ((\\y.y) (\\z.z)) 1");
        dueRow("x of y", siteRow(y, 0), -1, 1, 4, 4, 0, 1, 1);
        dueRow("y of z", siteRow(y, 1), -1, 2, 4, 4, 1, 1, 1);
        dueRow("all of 1", siteRow(y, 2), -1, 4, 0, 0, 2, 1, 1);
    }

    // ---- Promises 12 and 13

    private static final String SPLIT = "fun f g=g 1;fun h x=x+1;fun w x=x;"
        + "f (\\a.a) + f (\\b.b) + h 2 + (if 0 then (\\c.\\d.d) else (\\e.h)) 1 2 + (let u=\\m.m 1 in 3)";

    private static void split() {
        // made: f 0, h 1, \a 3, \b 4, \c 5, \d 6, \e 7, \m 8 (never called); never made: w 2
        Subject x = Checks.of(SPLIT);
        dueRow("split 0", splitRow(x, 0), 1, 1, 7, 7, 1);
        // f and \m : ((i>i)>i) and ((i>a)>a); \c, \e : (i>(i>i)); h, \a, \b, \d : (i>i)
        dueRow("split 1", splitRow(x, 1), 4, 3, 7, 4, 1);
        // f | h, \d | \a, \b | \c, \e | \m
        dueRow("split 2", splitRow(x, 2), 5, 4, 7, 2, 1);
        for (int s : new int[] {-1, 3, Integer.MAX_VALUE, Integer.MIN_VALUE}) {
            due("split " + s, ILLEGAL, Checks.answer(() -> x.split(s, 0)));
            due("split and what " + s, NONE_SUCH, Checks.answer(() -> x.split(s, 5)));
        }
        due("what 5", NONE_SUCH, Checks.answer(() -> x.split(0, 5)));
        due("what -1", NONE_SUCH, Checks.answer(() -> x.split(0, -1)));
        dueRow("nothing made", splitRow(Checks.of("1"), 0), 0, 0, 0, 0, 0);
        dueRow("made alone", splitRow(Checks.of("\\x.x"), 2), 1, 0, 0, 0, 1);
    }

    private static void group() {
        Subject x = Checks.of(SPLIT);
        due("0 of split 0", 0x1fb, x.group(0, 0, false));
        due("cases of it", 0xfb, x.group(0, 0, true));
        due("0 of split 1", 1, x.group(1, 0, false));
        due("1 of split 1", 1 << 1 | 1 << 3 | 1 << 4 | 1 << 6, x.group(1, 1, false));
        due("2 of split 1", 1 << 5 | 1 << 7, x.group(1, 2, true));
        due("3 of split 1", 1 << 8, x.group(1, 3, false));
        due("its cases", 0, x.group(1, 3, true));
        due("1 of split 2", 1 << 1 | 1 << 6, x.group(2, 1, false));
        due("2 of split 2", 1 << 3 | 1 << 4, x.group(2, 2, false));
        due("3 of split 2", 1 << 5 | 1 << 7, x.group(2, 3, false));
        due("4 of split 2", 1 << 8, x.group(2, 4, false));
        due("5 of split 2", NONE_SUCH, Checks.answer(() -> x.group(2, 5, false)));
        due("-1 of split 2", NONE_SUCH, Checks.answer(() -> x.group(2, -1, false)));
        due("split 3", ILLEGAL, Checks.answer(() -> x.group(3, 9, false)));
        due("split -1", ILLEGAL, Checks.answer(() -> x.group(-1, 0, true)));
        // From one to another: a with b at one site, b with c at another.
        Subject y = Checks.of("let a=\\x.x in let b=\\x.x in let c=\\x.x in"
            + "(if 1 then a else b) 1+(if 1 then b else c) 2+(\\x.x) 3");
        due("a, b, c", 7, y.group(2, 0, false));
        due("alone", 8, y.group(2, 1, false));
        // The same by way of the first, and of the last, and two GROUPS made one later.
        String four = "let a=\\x.x in let b=\\x.x in let c=\\x.x in let d=\\x.x in ";
        due("by way of a", 7, Checks.of(four + "(if 1 then a else b) 1+(if 1 then a else c) 2").group(2, 0, false));
        due("by way of c", 7, Checks.of(four + "(if 1 then a else c) 1+(if 1 then b else c) 2").group(2, 0, false));
        Subject z = Checks.of(four + "(if 1 then a else c) 1+(if 1 then b else d) 2");
        due("a and c", 5, z.group(2, 0, false));
        due("b and d", 10, z.group(2, 1, false));
        Subject w = Checks.of(four + "(if 1 then a else c) 1+(if 1 then b else d) 2+(if 1 then c else b) 3");
        due("all of them", 15, w.group(2, 0, false));
        due("one GROUP", 1, w.split(2, 0));
    }

    // ---- Promises 14 and 15

    private static void run() {
        Subject x = Checks.of("fun fac n=if n<2 then 1 else n*fac (n-1);fac 5");
        for (int how = 0; how < 4; how++) dueRow("fac 5 by " + how, runRow(x, how), 0, 120, 5, 5, 1);
        Subject y = Checks.of("fun f x=\\y.x;f 1");
        for (int how = 0; how < 4; how++) dueRow("a function by " + how, runRow(y, how), 1, 1, 1, 1, 1);
        Subject z = Checks.of("let k=(\\x.\\y.x*10+y) in k 3 4 + k 1 2");
        for (int how = 0; how < 4; how++) dueRow("fields by " + how, runRow(z, how), 0, 46, 4, 1, 3);
        Subject w = Checks.of("let x=1 in let f=\\y.x+y in let x=10 in f x");
        dueRow("the x of where it was made", runRow(w, 2), 0, 11, 1, 1, 1);
        Subject v = Checks.of("fun c n=\\f.if n<1 then f 0 else c (n-1) (\\k.f (k+n));c 3 (\\r.r*2)");
        for (int how = 0; how < 4; how++) dueRow("one that stays, by " + how, runRow(v, how), 0, 12, 12, 8, 15);
        for (int how : new int[] {-1, 4, Integer.MAX_VALUE, Integer.MIN_VALUE}) {
            due("how " + how, ILLEGAL, Checks.answer(() -> x.run(how, 0)));
            due("how and what " + how, ILLEGAL, Checks.answer(() -> x.run(how, 5)));
            due("blame of how " + how, ILLEGAL, Checks.answer(() -> x.blame(how, 0)));
        }
        due("what 5", NONE_SUCH, Checks.answer(() -> x.run(0, 5)));
        due("what -1", NONE_SUCH, Checks.answer(() -> x.run(3, -1)));
    }

    private static void numbers(String text, int want) {
        Subject x = Checks.of(text);
        for (int how = 0; how < 4; how++) {
            due("ending of " + text, 0, x.run(how, 0));
            due("number of " + text, want, x.run(how, 1));
        }
    }

    private static void runEnds() {
        numbers("9999*9999*9999", 9999 * 9999 * 9999);
        numbers("0-7/2", -3);
        numbers("(0-7)/2", -3);
        numbers("(0-8*4096*1024*64)/(0-1)", Integer.MIN_VALUE);
        numbers("(0-8*4096*1024*64)-1", Integer.MAX_VALUE);
        numbers("1<2", 1);
        numbers("2<2", 0);
        numbers("0-1<0", 1);
        numbers("if 0-1 then 5 else 6", 5);
        numbers("if 0 then dead else 6", 6);
        numbers("let x=1 in (\\x.x) 2+x", 3);
        ends("1/0", 2, 0, 0);
        ends("dead+1/0", 3, 0, 0);
        ends("1/0+dead", 2, 0, 0);
        ends("let x=dead in 1", 3, 0, 0);
        ends("(\\x.1) dead", 3, 0, 0);
        ends("dead (1/0)", 3, 0, 0);
        ends("(\\x.x) (1/0)", 2, 0, 0);
        ends("fun f x=1/x;f (f 1-1)", 2, 2, 1);
        ends("fun f x=if x then 1+f (x-1) else 0;f 99", 0, 100, 100);
        ends("fun f x=if x then 1+f (x-1) else 0;f 100", 4, 100, 100);
        ends("fun f x=if x then f (x-1) else (\\y.y) 0;f 99", 4, 100, 100);
        Subject last = Checks.of("fun f x=if x then f (x-1) else (\\y.y) 0;f 99");
        due("the 101st is not entered", 1, last.run(0, 4));
        ends("fun f x=if x then f (x-1) else (\\y.y) dead;f 99", 3, 100, 100);
        due("a number of no ending", 0, Checks.of("1/0").run(0, 1));
        // As much as can wait at a time: in each of a hundred calls a long row of operators, on one side or the other.
        numbers("fun f x=if x then f (x-1)" + times("+1", 44) + " else 0;f 99", 99 * 44);
        numbers("fun f x=if x then 1" + times("-1*(1", 18) + "-1*f (x-1)" + times(")", 18) + " else 1;f 99", 0);
        numbers("fun f x=if x then 0" + times("<0+1*(0", 14) + "<f (x-1)" + times(")", 14) + " else 1;f 99", 1);
        ends("fun f x=f x" + times("+1", 46) + ";f 1", 4, 100, 100);
        ends("fun f x=\\y.dead f x" + times("+1", 10) + ";f 1 2", 3, 2, 1);
    }

    private static void ends(String text, int ending, int steps, int deep) {
        Subject x = Checks.of(text);
        for (int how = 0; how < 4; how++) {
            due("ending of " + text, ending, x.run(how, 0));
            due("steps of " + text, steps, x.run(how, 2));
            due("deep of " + text, deep, x.run(how, 3));
        }
    }

    private static void blame() {
        Subject x = Checks.of("fun f x=f x;1");
        due("no blame of a number", -1, x.blame(0, 0));
        Subject y = Checks.of("fun low x=x/0;fun mid x=1+(\\y.low y) x;(\\z.z) 1+mid 3");
        for (int how = 0; how < 4; how++) {
            due("steps", 4, y.run(how, 2));
            due("innermost", 0, y.blame(how, 0));
            due("then \\y", 2, y.blame(how, 1));
            due("then mid", 1, y.blame(how, 2));
            due("no more", -1, y.blame(how, 3));
            due("none below", -1, y.blame(how, -1));
            due("far beyond", -1, y.blame(how, Integer.MAX_VALUE));
        }
        Subject z = Checks.of("fun l x=l x;l 0");
        due("the last of a hundred", 0, z.blame(2, 99));
        due("not a hundred and one", -1, z.blame(2, 100));
        Subject w = Checks.of("(\\x.x) dead");
        due("not entered yet", -1, w.blame(0, 0));
        Subject v = Checks.of("(\\x.x) 1+dead");
        due("left", -1, v.blame(0, 0));
        due("a function that ends it", -1, Checks.of("\\x.x").blame(1, 0));
    }

    // ---- Promises 16 to 19

    private static void forms(String text, int split, String want) {
        Subject x = Checks.of(text);
        due("form " + split + " of " + text, want, Checks.told(x, () -> x.form(split)));
    }

    private static void form() {
        forms("let f=if 1 then \\x.x+1 else \\x.x*2 in f 5", 2,
            "a0:{C0()x.(x+1)|C1()x.(x*2)}(let f=(if 1 then C0() else C1()) in a0(f,5))");
        forms("dead 1+(2<3)*7/2-5", 0, "((an(dead,1)+(((2<3)*7)/2))-5)");
        forms("\\x.\\y.x+y", 0, "C0()");
        String text = "fun k x=\\y.x+y;fun ap f=f 0007;let a=1 in ap (k a)+ap (\\z.a)+(\\q.q a) (\\r.k r 1)";
        forms(text, 0, "a0:{C0()x.C2(x)|C1()f.a0(f,7)|C2(x)y.(x+y)|C3(a)z.a|C4(a)q.a0(q,a)|C5()r.a0(a0(C0(),r),1)}"
            + "(let a=1 in ((a0(C1(),a0(C0(),a))+a0(C1(),C3(a)))+a0(C4(a),C5())))");
        forms(text, 1, "a0:{C0()x.C2(x)}a1:{C1()f.a2(f,7)|C4(a)q.a2(q,a)}"
            + "a2:{C2(x)y.(x+y)|C3(a)z.a|C5()r.a2(a0(C0(),r),1)}"
            + "(let a=1 in ((a1(C1(),a0(C0(),a))+a1(C1(),C3(a)))+a1(C4(a),C5())))");
        // The site k r 1 puts \y to the GROUP of \y and \z.
        forms(text, 2, "a0:{C0()x.C2(x)}a1:{C1()f.a2(f,7)}a2:{C2(x)y.(x+y)|C3(a)z.a}a3:{C4(a)q.a4(q,a)}"
            + "a4:{C5()r.a2(a0(C0(),r),1)}(let a=1 in ((a1(C1(),a0(C0(),a))+a1(C1(),C3(a)))+a3(C4(a),C5())))");
        // A GROUP without CASES has its number all the same.
        forms("let u=\\x.x+1 in (\\v.\\w.1) 2", 2, "a1:{C1()v.C2()}(let u=C0() in a1(C1(),2))");
        forms("let x=1 in let y=2 in (\\z.y+x+z+y) 3", 0, "a0:{C0(y,x)z.(((y+x)+z)+y)}(let x=1 in (let y=2 in a0(C0(y,x),3)))");
        Subject x = Checks.of("1");
        due("form 3", ILLEGAL, Checks.answer(() -> x.form(3)));
        due("form -1", ILLEGAL, Checks.answer(() -> x.form(-1)));
        due("nothing shown by it", 0, x.count(10));
    }

    private static void backs(String text, String want) {
        Subject x = Checks.of(text);
        due("back of " + text, want, Checks.told(x, x::back));
        due("the program stays behind back of " + text, x.count(0) + x.count(1), (int) Checks.read(new Subject(), text));
    }

    private static void back() {
        backs("\\x.\\y.x+y", "(\\x.dead)");
        backs("fun f x=x;fun g y=f y;fun h z=h z;let a=h in f 1", "fun f x=x;fun h z=dead;(let a=h in (f 1))");
        backs("fun f x=\\y.\\z.z;f 1", "fun f x=(\\y.dead);(f 1)");
        backs("(\\x.x) (\\y.(\\z.z) y)", "((\\x.x) (\\y.dead))");
        backs("if 0 then (\\x.x) 01 else 2<3", "(if 0 then ((\\x.x) 1) else (2<3))");
    }

    private static void show() {
        shows("\\x.\\y.x+y", "(\\x.(\\y.(x+y)))");
        shows("fun f x=let y=x in dead;fun g x=if x then f x else g x;1",
            "fun f x=(let y=x in dead);fun g x=(if x then (f x) else (g x));1");
        Subject x = Checks.of("2");
        due("bytes of show", 1, x.show());
        due("shown", 50, x.octet(0));
        // Far longer than 400 bytes: each operator has its ( ).
        Subject y = Checks.of(times("1+", 49) + "1");
        due("a long one", 50 + 49 * 3, y.show());
    }

    private static void take() {
        Subject x = Checks.of("fun f x=x;fun g y=\\a.f y;fun h z=\\b.b;(\\c.h c) 1 2+(let d=g in 3)");
        due("functions ahead", 6, x.count(0) + x.count(1));
        x.show();
        due("take", 4, x.take());
        due("nothing is shown behind take", 0, x.count(10));
        due("the program now", "fun g y=dead;fun h z=(\\b.b);((((\\c.(h c)) 1) 2)+(let d=g in 3))", Checks.told(x, x::show));
        due("globals", 2, x.count(0));
        due("lambdas", 2, x.count(1));
        due("g is made", 1, x.function(0, 2));
        due("g is not called", 0, x.function(0, 3));
        due("g's type is open now", "(a>b)", Checks.told(x, () -> x.type(0)));
        due("home of \\b", 1, x.function(2, 0));
        due("sites are numbered anew", 3, x.count(2));
        due("site 0 lies in \\c", 3, x.site(0, 0));
        due("the run stays", 5, x.run(3, 1));
        due("take again", 4, x.take());
        due("again the same", "fun g y=dead;fun h z=(\\b.b);((((\\c.(h c)) 1) 2)+(let d=g in 3))", Checks.told(x, x::show));
        // What needs more than 400 bytes to be written and more than 20 ( within one another is taken all the same.
        Subject y = Checks.of(times("1+", 30) + "(\\x." + times("x+", 17) + "x) 1");
        int ahead = y.back();
        due("take of a long one", 1, y.take());
        due("as long as before", ahead, y.show());
        due("its run", 48, y.run(0, 1));
        Subject z = Checks.of("\\x.\\y.x+y");
        due("type ahead", "(i>(i>i))", Checks.told(z, z::typeOfMain));
        due("one is left", 1, z.take());
        due("type behind", "(a>b)", Checks.told(z, z::typeOfMain));
        due("no fields any more", 0, z.function(0, 6));
        // The tape is left alone.
        z.feed(0x20202037, 0x20202020, 0x20202020, 0x20202020, 0x20202020);
        z.take();
        due("the tape stays", 0, z.read());
        due("it was 7", "7", Checks.told(z, z::show));
    }

    // ---- Promises 20 and 21

    private static final String RINGS = "fun self n=if n then self (n-1) else 0;fun even h=\\n.if n then h 1 (n-1) else 1;"
        + "fun odd n=(if n then \\m.odd m else self) n;fun no x=no x;self 3+odd 4+(even (\\u.\\v.even dead v) 2)";

    private static void ring() {
        // FUNCTIONS: self 0, even 1, odd 2, no 3, then the LAMBDAS of n 4, m 5, u 6, v 7
        Subject x = Checks.of(RINGS);
        due("rings", 3, x.count(9));
        due("self", 1, x.ring(0));
        due("odd and \\m", 1 << 2 | 1 << 5, x.ring(1));
        due("\\n and \\v", 1 << 4 | 1 << 7, x.ring(2));
        due("self's", 0, x.function(0, 10));
        due("even is in none", -1, x.function(1, 10));
        due("\\m's", 1, x.function(5, 10));
        due("no is not called", -1, x.function(3, 10));
        due("ring 3", BEYOND, Checks.answer(() -> x.ring(3)));
        due("ring -1", BEYOND, Checks.answer(() -> x.ring(-1)));
        due("a call of a lambda within is not one's own", 0, Checks.of("fun f x=let g=\\y.f y in x;f 1").count(9));
    }

    private static void far() {
        Subject x = Checks.of(RINGS);
        due("self to itself", 0, x.far(0, 0));
        due("odd to self", 1, x.far(2, 0));
        due("odd to \\m", 1, x.far(2, 5));
        due("\\m to self", 2, x.far(5, 0));
        due("\\n to even", 2, x.far(4, 1));
        due("\\n to \\u", 1, x.far(4, 6));
        due("self to odd", -1, x.far(0, 2));
        due("no to itself: it is not called", -1, x.far(3, 3));
        due("odd to no", -1, x.far(2, 3));
        due("no to odd", -1, x.far(3, 2));
        due("far of none", BEYOND, Checks.answer(() -> x.far(8, 0)));
        due("far to none", BEYOND, Checks.answer(() -> x.far(0, 8)));
        due("far of -1", BEYOND, Checks.answer(() -> x.far(-1, -1)));
    }

    // ---- Promises 22 and 23

    private static void octet() {
        Subject x = Checks.of("\\x.1");
        due("nothing shown", -1, x.octet(0));
        x.show();
        due("the first", (int) '(', x.octet(0));
        due("the second", (int) '\\', x.octet(1));
        due("the last", (int) ')', x.octet(5));
        due("behind the last", -1, x.octet(6));
        due("ahead of the first", -1, x.octet(-1));
        due("most", -1, x.octet(Integer.MAX_VALUE));
        due("least", -1, x.octet(Integer.MIN_VALUE));
        x.typeOfMain();
        due("written last", (int) 'a', x.octet(1));
        due("shorter now", -1, x.octet(5));
    }

    private static void count() {
        Subject x = Checks.of("fun f g=\\x.g (g x);fun no x=x;let k=1 in f (f (\\y.y+k))");
        // f 0, no 1, \x 2, \y 3
        int[] want = {2, 2, 4, 17, 1 << 2, 1 | 1 << 2 | 1 << 3, 1, 2, 2, 0, 0, 2, 10};
        for (int k = 0; k < want.length; k++) due("count " + k, want[k], x.count(k));
        due("count 13", -1, x.count(13));
        due("fields of the first that is made", 1, Checks.of("let x=1 in \\y.x+y").count(11));
        due("fields of all that are made", 4, Checks.of("let x=1 in let y=2 in (\\z.x+y) 1+(\\u.(\\v.v) x) 2+(\\w.y) 3").count(11));
        due("not of others", 1, Checks.of("let x=1 in \\y.\\z.x+y+z").count(11));
        due("count -1", -1, x.count(-1));
        x.show();
        due("bytes shown", "fun f g=(\\x.(g (g x)));fun no x=x;(let k=1 in (f (f (\\y.(y+k)))))".length(), x.count(10));
    }
}
