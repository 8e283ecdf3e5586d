import java.io.IOException;

/** The sentences behind '==== 2.' that name a boundary case, in the document's order, each with a test of its own. */
public final class FlowSentenceTests {
    public static void main(String[] args) throws IOException {
        least();
        comesOf();
        lookedAt();
        fields();
        groupsOfMade();
        groupsBySites();
        knownCalls();
        rings();
        order();
        numbers();
        steps();
        endings();
        blame();
        formCases();
        formData();
        formMade();
        formSites();
        back();
        written();
        Sentences.close("FlowSentenceTests", args);
    }

    private static void sentence(String words) { Sentences.sentence(words); }

    private static void due(String what, Object want, Object got) { Sentences.due(what, want, got); }

    private static void runs(String want, String text) { Sentences.runs(want, text); }

    private static void blames(String want, String blame, String text) { Sentences.runsBlaming(want, blame, text); }

    private static Subject of(String text) { return Sentences.of(text); }

    private static String times(int many, String text) { return text.repeat(many); }

    /** ESCAPES, MADE, CALLED, SITES that are LOOKED at. */
    private static void flow(String want, String text) {
        Subject x = of(text);
        due(text, want, Sentences.row(4, k -> x.count(k + 4)));
    }

    private static void functionIs(String want, String text, int f) {
        due(f + " of " + text, want, Sentences.functionRow(of(text), f));
    }

    private static void siteIs(String want, String text, int site) {
        due("SITE " + site + " of " + text, want, Sentences.siteRow(of(text), site));
    }

    private static void groupsAre(int split, String want, String text) {
        due("GROUPS " + split + " of " + text, want, Sentences.groupRow(of(text), split));
    }

    private static void casesAre(int split, String want, String text) {
        due("CASES " + split + " of " + text, want, Sentences.caseRow(of(text), split));
    }

    // ---- COMES

    private static void least() {
        sentence("COMES: the least sets of FUNCTIONS, such that, MAIN being LOOKED at");
        flow("0 1 1 2", "fun l x=l x;l 0");
        flow("0 0 0 0", "fun l x=l x;0");
        flow("2 3 1 2", "fun f x=if 1 then f x else \\y.y;f 1");
        flow("0 3 3 3", "fun f x=x;fun g x=g (f x);g 1");
        // by way of SITES that come ahead of what is applied there
        flow("16 31 15 4", "fun a g=g 0;fun b h=h 0;a (\\p.b (\\q.\\z.z))");
        flow("64 127 63 6", "fun a g=g 0;fun b h=h 0;fun c i=i 0;a (\\p.b (\\q.c (\\r.\\z.z)))");
        sentence("of a WORD that is a GLOBAL that itself (it is MADE then), of a LAMBDA that itself (MADE)");
        flow("1 1 0 0", "fun f x=x;f");
        flow("1 1 0 0", "\\a.\\b.b");
        flow("4 4 0 0", "fun f x=x;fun g x=f x;fun h x=g x;h");
        flow("2 3 1 1", "(\\a.\\b.\\c.c) 1");
        flow("4 7 3 2", "(\\a.\\b.\\c.c) 1 2");
        flow("0 1 0 1", "fun f x=x;dead f");
    }

    private static void comesOf() {
        sentence("of a VAR what its VAR has");
        flow("2 3 1 1", "(\\x.x) (\\a.a)");
        flow("6 7 1 2", "fun id x=x;if 1 then id (\\a.a) else id (\\b.b)");
        sentence("of an if what both ends have");
        flow("3 3 0 0", "if 1 then \\a.a else \\b.b");
        flow("1 1 0 0", "if 1 then \\a.a else dead");
        flow("1 1 0 0", "if 0 then dead else \\a.a");
        sentence("of let what the EXPR behind in has, its VAR having what is ahead of in");
        flow("2 3 0 0", "let v=\\a.a in \\b.b");
        flow("3 3 0 0", "let v=if 1 then \\a.a else \\b.b in v");
        flow("0 1 0 0", "let v=\\a.a in 1");
        sentence("of a SITE, for each FUNCTION that comes as what is applied");
        siteIs("-1 5 0 10 0 0 1", "(if 1 then \\a.\\c.1 else \\b.\\d.2) 3", 0);
        flow("10 15 5 1", "(if 1 then \\a.\\c.1 else \\b.\\d.2) 3");
        siteIs("-1 0 1 0 -1 0 1", "dead (\\a.a)", 0);
        functionIs("-1 1 1 1 6 6 0 0 0 0 -1 0 2", "fun id x=x;if 1 then id (\\a.a) else id (\\b.b)", 0);
        siteIs("-1 1 2 6 0 1 1", "fun id x=x;if 1 then id (\\a.a) else id (\\b.b)", 0);
        siteIs("-1 1 4 6 0 1 1", "fun id x=x;if 1 then id (\\a.a) else id (\\b.b)", 1);
        sentence("of others nothing.");
        flow("0 1 1 1", "(\\a.a) 1");
        flow("0 1 1 1", "1+(\\a.a) 1");
        flow("0 0 0 0", "1<dead");
        flow("0 0 0 0", "dead");
    }

    private static void lookedAt() {
        sentence("(Of both ends of an if, and of what is behind in, all is LOOKED at.)");
        flow("0 3 3 2", "if 0 then (\\a.a) 1 else (\\b.b) 2");
        flow("0 3 3 2", "if 1 then (\\a.a) 1 else (\\b.b) 2");
        flow("0 3 3 2", "let v=(\\a.a) 1 in (\\b.b) 2");
        flow("0 1 1 1", "if (\\a.a) 1 then 2 else 3");
        flow("0 1 1 2", "dead ((\\a.a) 1)");
        flow("1 1 0 0", "\\a.(\\b.b) 1");
        flow("0 1 1 2", "(\\a.dead a) 1");
        sentence("ESCAPES: what comes of MAIN.");
        functionIs("-1 0 1 0 0 0 0 0 0 0 -1 1 0", "\\a.\\b.b", 0);
        functionIs("0 0 0 0 0 0 0 -1 -1 0 -1 0 0", "\\a.\\b.b", 1);
        functionIs("0 0 1 0 0 0 1 1 1 0 -1 1 0", "(\\a.\\b.a) 1", 1);
        functionIs("-1 0 1 0 0 0 0 0 0 0 -1 0 0", "let v=\\a.a in 1", 0);
    }

    // ---- FIELDS, GROUPS

    private static void fieldsAre(String want, String text, int f) {
        due("FIELDS of " + f + " of " + text, want, Sentences.fieldRow(of(text), f));
    }

    private static void fields() {
        sentence("FIELDS of a FUNCTION: VARS (not its own, no GLOBALS) that its EXPR has from outside it,"
            + " in the order in which they first stand there.");
        String text = "fun g x=x;let a=1 in let bcde=2 in \\c.bcde+a+bcde+c+g a+(\\d.d+c+a) bcde";
        fieldsAre("", text, 0);
        fieldsAre("bcde a", text, 1);
        fieldsAre("c a", text, 2);
        fieldsAre("", "\\x.x+(\\y.y) x", 0);
        fieldsAre("", "\\x.1", 0);
        fieldsAre("x", "let x=1 in \\y.let x=x in x", 0);
        fieldsAre("", "let x=1 in \\y.let x=2 in x", 0);
        fieldsAre("x", "let x=1 in \\y.(let x=2 in x)+x", 0);
        fieldsAre("x", "let x=1 in \\y.(\\x.x) 2+x", 0);
        fieldsAre("", "let x=1 in \\y.(\\x.x) 2+x", 1);
        fieldsAre("y x", "fun f x=\\y.\\z.y+x;1", 2);
        fieldsAre("x", "fun f x=\\y.\\z.y+x;1", 1);
        fieldsAre("", "fun f x=\\y.\\z.y+x;1", 0);
        fieldsAre("z y x w", "\\w.\\x.\\y.\\z.\\f.dead z y x w x y z", 4);
        fieldsAre("f", "let f=\\x.x in \\x.f x", 1);
    }

    private static void groupsOfMade() {
        sentence("GROUPS (split 0 to 2) of FUNCTIONS that are MADE: 0: all are one");
        for (int split = 0; split < 3; split++) {
            groupsAre(split, "", "1");
            groupsAre(split, "", "fun f x=x;1");
            groupsAre(split, "2", "fun f x=x;\\a.\\b.b");
        }
        groupsAre(0, "11", "dead (\\a.1) (\\b.\\c.1) (\\d.1)");
        functionIs("-1 1 0 0 0 0 0 -1 -1 0 -1 0 0", "fun f x=x;\\a.\\b.b", 0);
        sentence("1: those of one TYPE");
        groupsAre(1, "9 2", "dead (\\a.a+1) (\\b.\\c.1) (\\d.d+2)");
        groupsAre(1, "1 6", "dead (\\a.a 1) (\\b.b+1) (\\c.1<c)");
        groupsAre(1, "3", "let a=\\x.x in if 1 then \\y.y else a");
        sentence("2: two that come together as what is applied at some SITE (LOOKED at), and so on from one to another one.");
        groupsAre(2, "3 4", "(if 1 then \\a.a else \\b.b) 1+(\\c.c) 2");
        groupsAre(2, "1 2 4", "let v=\\a.a+1 in let w=\\b.b in \\z.(if 1 then v else w) 1");
        groupsAre(2, "3 4", "let v=\\a.a+1 in let w=\\b.b in (\\z.(if 1 then v else w) 1) 2");
        groupsAre(2, "1 2", "dead (if 1 then \\a.a+1 else \\b.b)");
        groupsAre(2, "1 2", "if 1 then \\a.a+1 else \\b.b");
    }

    private static void groupsBySites() {
        String four = "let a=\\x.x+1 in let b=\\x.x in let c=\\x.x in let d=\\x.x in ";
        groupsAre(2, "7 8", four + "(if 1 then a else b) 1+(if 1 then b else c) 1");
        groupsAre(2, "7 8", four + "(if 1 then b else c) 1+(if 1 then c else a) 1");
        groupsAre(2, "15", four + "(if 1 then a else d) 1+(if 1 then b else c) 1+(if 1 then d else b) 1");
        groupsAre(2, "15", four + "(if 1 then a else if 1 then b else if 1 then c else d) 1");
        sentence("Numbered by their least FUNCTIONS.");
        groupsAre(2, "9 2 4", four + "(if 1 then d else a) 1");
        groupsAre(2, "9 6", four + "(if 1 then c else b) 1+(if 1 then d else a) 1");
        groupsAre(1, "1 10 4", "dead (\\a.1<a) (\\b.b 1+1) (\\c.c 1 2+1) (\\e.e 1+2)");
        sentence("APPLY of a GROUP: its CASES are those of it that are CALLED.");
        casesAre(0, "1", "(\\a.1) (\\b.2)");
        casesAre(2, "1 0", "(\\a.1) (\\b.2)");
        casesAre(1, "1 0", "(\\a.1) (\\b.2)");
        casesAre(2, "3 0", "(if 1 then \\a.a else \\b.b) 1+dead (\\c.c)");
    }

    // ---- KNOWN, CALLS, RINGS

    private static void knownCalls() {
        sentence("KNOWN: a SITE (LOOKED at) at which just one comes.");
        siteIs("-1 0 0 0 -1 0 1", "dead 1", 0);
        siteIs("-1 1 0 0 0 1 1", "(\\a.a) 1", 0);
        siteIs("-1 3 0 0 0 0 1", "(if 1 then \\a.a else \\b.b) 1", 0);
        siteIs("0 0 0 0 -1 0 0", "\\x.(\\a.a) 1", 0);
        due("KNOWN of all", 1, of("dead 1+(\\a.a) 1+(if 1 then \\a.a else \\b.b) 1+dead (\\x.(\\a.a) 1)").count(8));
        sentence("CALLS of a FUNCTION that is CALLED: those that come as what is applied at SITES (LOOKED at) in its EXPR"
            + " (not in LAMBDAS within)");
        due("none of one that is not CALLED", 0, of("fun g x=g x;1").function(0, 9));
        due("not in LAMBDAS within", 0, of("fun g x=x;fun f x=let h=\\y.g y in 1;f 1").function(1, 9));
        due("those within", 4, of("fun g x=x;fun f x=let h=\\y.g y in h 2;f 1").function(1, 9));
        due("in LAMBDAS within", 1, of("fun g x=x;fun f x=let h=\\y.g y in h 2;f 1").function(2, 9));
        due("of several", 6, of("(\\f.f 1) (if 1 then \\a.a else \\b.b)").function(0, 9));
        due("of several SITES", 6, of("(\\f.(\\a.a) 1+(\\b.b) 2) 3").function(0, 9));
    }

    private static void ringsAre(String want, String text) { due("RINGS of " + text, want, Sentences.ringRow(of(text))); }

    private static void rings() {
        sentence("a RING: FUNCTIONS that all CALL one another, on and on, or one that CALLS itself; numbered by the least.");
        ringsAre("1", "fun l x=l x;l 0");
        ringsAre("", "fun l x=l x;0");
        ringsAre("", "fun f x=x;fun g x=f x;g (f 1)");
        ringsAre("3", "fun f x=(\\y.f y) x;f 1");
        ringsAre("7", "fun f x=(\\y.(\\z.f z) y) x;f 1");
        ringsAre("5 2", "fun f x=(\\y.f y) x;fun g x=g (f x);g 1");
        ringsAre("1 2 4", "fun f x=f x;fun g x=g (f x);fun h x=h (g x);h 1");
        functionIs("-1 1 1 1 0 0 0 1 1 3 1 0 2", "fun f x=f x;fun g x=g (f x);g 1", 1);
        functionIs("-1 1 1 1 0 0 0 1 0 1 -1 0 1", "fun f x=f x;fun g x=f x;g 1", 1);
    }

    // ---- RUN

    private static void order() {
        sentence("RUN: what is applied first, then the argument, then its EXPR");
        runs("3 0 0 0 0", "dead (1/0)");
        runs("2 0 0 0 0", "(if 1/0 then dead else dead) dead");
        runs("2 0 0 0 0", "(\\x.dead) (1/0)");
        runs("3 0 0 0 0", "(\\x.1/0) dead");
        runs("2 0 1 1 1", "(\\x.1/0) 1");
        runs("2 0 1 1 1", "(\\x.if 1/0 then dead else dead) 1 dead");
        runs("3 0 1 1 2", "(\\x.1/0) ((\\y.dead) 1)");
        sentence("the left side first");
        for (String sign : new String[] {"+", "-", "*", "/", "<"}) {
            runs("2 0 0 0 0", "1/0" + sign + "dead");
            runs("3 0 0 0 0", "dead" + sign + "(1/0)");
        }
        sentence("if: not 0 is then.");
        runs("0 6 0 0 0", "if 0 then 5 else 6");
        for (String not : new String[] {"1", "9999", "0-1", "2-1", "1<2", "0-8*4096*1024*64"}) runs("0 5 0 0 0", "if " + not + " then 5 else 6");
        for (String zero : new String[] {"0000", "1-1", "2<1", "8*8192*1024*64"}) runs("0 6 0 0 0", "if " + zero + " then 5 else 6");
        runs("0 5 0 0 0", "if 1 then 5 else dead");
        runs("0 6 0 0 0", "if 0 then dead else 6");
    }

    private static void numbers() {
        String least = "(0-8*4096*1024*64)";
        sentence("NUMBERS have 32 bits, going round");
        runs("0 -2147483648 0 0 0", least);
        runs("0 -2147483648 0 0 0", "8*4096*1024*64");
        runs("0 2147483647 0 0 0", least + "-1");
        runs("0 -2147483648 0 0 0", "(" + least + "-1)+1");
        runs("0 -1027349969 0 0 0", "9999*9999*9999");
        runs("0 0 0 0 0", least + "*2");
        runs("0 1 0 0 0", least + "<(" + least + "-1)");
        runs("0 0 0 0 0", "(" + least + "-1)<" + least);
        sentence("/ is Java's.");
        runs("0 3 0 0 0", "7/2");
        runs("0 -3 0 0 0", "(0-7)/2");
        runs("0 -3 0 0 0", "7/(0-2)");
        runs("0 3 0 0 0", "(0-7)/(0-2)");
        runs("0 0 0 0 0", "1/2");
        runs("0 0 0 0 0", "0/5");
        runs("0 -2147483648 0 0 0", least + "/(0-1)");
        runs("0 0 0 0 0", "9999/" + least);
        // what < gives: 1 or 0
        runs("0 1 0 0 0", "1<2");
        runs("0 0 0 0 0", "2<2");
        runs("0 0 0 0 0", "3<2");
        runs("0 1 0 0 0", "0-1<0");
    }

    private static void steps() {
        String down = "fun f x=if x then f (x-1) else 7;";
        sentence("At most 100 STEPS (a STEP: a FUNCTION is entered).");
        runs("0 1 0 0 0", "1");
        runs("1 0 0 0 0", "\\x.x");
        runs("0 7 1 1 1", down + "f 0");
        runs("0 7 99 99 1", down + "f 98");
        runs("0 7 100 100 1", down + "f 99");
        runs("4 0 100 100 1", down + "f 100");
        runs("0 14 100 50 1", down + "f 49+f 49");
        runs("4 0 100 50 1", down + "f 49+f 50");
        // the 101st is not entered: it is no STEP, and none of those that were entered
        runs("4 0 100 100 1", "fun f x=if x then f (x-1) else (\\y.y) 7;f 99");
        runs("0 7 100 100 3", "fun f x=if x then f (x-1) else (\\y.y) 7;f 98");
    }

    private static void endings() {
        sentence("It ends: 0 a NUMBER; 1 a FUNCTION; 2 / by 0; 3 dead; 4 a 101st STEP; 5 there is no CASE (of a form without functions).");
        runs("0 0 0 0 0", "0");
        runs("0 9999 0 0 0", "9999");
        runs("1 1 0 0 0", "fun f x=x;if 0 then f else \\x.x");
        runs("1 0 0 0 0", "fun f x=x;f");
        runs("1 2 1 1 2", "fun f x=x;fun g x=\\y.x;g 1");
        runs("2 0 0 0 0", "1/0");
        runs("2 0 0 0 0", "0/0");
        runs("2 0 0 0 0", "1/(1-1)");
        runs("3 0 0 0 0", "dead");
        runs("3 0 0 0 0", "let x=dead in 1");
        runs("3 0 0 0 0", "if dead then 1 else 2");
        runs("3 0 0 0 0", "dead 1");
        runs("4 0 100 100 1", "fun l x=l x;l 0");
        // what a form applies has come there, so there is always a CASE: an is only where nothing is ever applied
        runs("3 0 1 1 1", "(\\x.if x then 1 else dead 1) 0");
        runs("0 1 1 1 1", "(\\x.if x then 1 else dead 1) 5");
    }

    private static void blame() {
        sentence("BLAME: FUNCTIONS that were entered and not left yet, when it ended by 2 to 5, the innermost first.");
        blames("0 3 1 1 1", "", "(\\x.x) 3");
        blames("1 1 1 1 1", "", "(\\x.\\y.x) 3");
        blames("2 0 1 1 1", "0", "(\\x.x/0) 3");
        blames("2 0 0 0 0", "", "1/0");
        blames("2 0 2 2 3", "1 0", "(\\x.(\\y.y/0) x) 3");
        blames("3 0 2 1 3", "1", "(\\x.x) 1+(\\y.dead) 2");
        blames("3 0 1 1 1", "", "(\\x.x) 1+dead");
        blames("3 0 1 1 1", "0", "(\\x.(\\y.y) dead) 1");
        blames("4 0 100 100 1", "0" + times(99, " 0"), "fun l x=l x;l 0");
        blames("4 0 100 50 3", "0" + times(49, " 0"), "fun f x=if x then f (x-1) else 0;f 48+(\\y.y) 1+f 60");
        sentence("DEEP: the most of these at one time.");
        runs("0 3 2 1 3", "(\\x.x) 1+(\\y.y) 2");
        runs("0 1 2 2 3", "(\\x.(\\y.y) x) 1");
        runs("0 1 2 1 3", "(\\x.x) ((\\y.y) 1)");
        runs("0 4 4 2 3", "fun f x=1+(\\y.y) x;f (f 2)");
        runs("0 2 2 1 3", "(\\x.\\y.y) 1 2");
    }

    // ---- THE FORM, BACK

    private static void formIs(int split, String want, String text) { due("form " + split + " of " + text, want, Sentences.form(split, text)); }

    private static void formData() {
        sentence("FUNCTIONS are DATA: the FUNCTION's number and what its FIELDS have; a SITE applies by the APPLY of the GROUP of the DATA");
        // each has what its FIELDS had where it was made, however often and wherever it is applied
        runs("0 37 4 1 3", "fun k x=\\y.x*10+y;let a=k 1 in let b=k 2 in a 3+b 4");
        runs("0 43 4 1 3", "fun k x=\\y.x*10+y;let a=k 1 in let b=k 2 in b 3+a 10");
        runs("0 11 1 1 1", "let x=1 in let f=\\y.x+y in let x=10 in f x");
        runs("0 12 12 8 15", "fun c n=\\f.if n<1 then f 0 else c (n-1) (\\k.f (k+n));c 3 (\\r.r*2)");
        runs("0 321 5 3 31", "fun t a=\\b.\\c.a+b*10+c*100;fun p q=(\\u.q u) 3;let f=t 1 in p (f 2)");
        sentence("runs of the program and of its form without functions, that answer alike");
        runs("2 0 7 3 15", "fun f g=g 1/g 0;let k=1 in f (\\x.x+k)+(\\y.f y) (\\z.0)+dead (\\w.w)");
        runs("1 1 1 1 1", "(\\x.\\y.x) 1");
    }

    private static void formCases() {
        sentence("for each GROUP that has CASES a k : { C f ( FIELDS with , ) VAR . EXPR and a | between two },"
            + " one right behind another, and right behind these MAIN (no ; stands there)");
        formIs(0, "1", "1");
        formIs(0, "C0()", "\\x.x");
        formIs(0, "a0:{C0()x.x}a0(C0(),1)", "(\\x.x) 1");
        formIs(0, "a0:{C0()x.x|C1()y.y}(a0(C0(),1)+a0(C1(),2))", "(\\x.x) 1+(\\y.y) 2");
        formIs(2, "a0:{C0()x.x}a1:{C1()y.y}(a0(C0(),1)+a1(C1(),2))", "(\\x.x) 1+(\\y.y) 2");
        formIs(2, "a0:{C0()x.x}a2:{C2()z.z}((a0(C0(),1)+an(dead,C1()))+a2(C2(),3))",
            "(\\x.x) 1+dead (\\y.y)+(\\z.z) 3");
    }

    private static void formMade() {
        sentence("in these a GLOBAL as C f ( ), a LAMBDA C f ( FIELDS )");
        formIs(0, "a0:{C0()x.x}a0(C0(),1)", "fun f x=x;f 1");
        formIs(0, "(let x=1 in C0(x))", "let x=1 in \\y.x");
        formIs(0, "(let x=1 in (let zzzz=2 in C0(zzzz,x)))", "let x=1 in let zzzz=2 in \\y.zzzz+x+zzzz");
        formIs(0, "a0:{C0(zzzz,x)y.((zzzz+x)+y)}(let x=1 in (let zzzz=2 in a0(C0(zzzz,x),3)))",
            "let x=1 in let zzzz=2 in (\\y.zzzz+x+y) 3");
        formIs(0, "a0:{C0()x.C1(x)|C1(x)y.x}a0(a0(C0(),1),2)", "(\\x.\\y.x) 1 2");
        formIs(0, "a0:{C0()x.C1(x)}a0(C0(),1)", "(\\x.\\y.x) 1");
    }

    private static void formSites() {
        sentence("a SITE a k ( EXPR , EXPR ) (k of the GROUP of those that come there, the least; n where none comes)");
        formIs(0, "an(dead,1)", "dead 1");
        formIs(2, "a0:{C0()x.an(dead,x)}a0(C0(),1)", "(\\x.dead x) 1");
        formIs(2, "a0:{C0()a.1|C1()b.2}a1:{C2()c.3}(a0((if 1 then C0() else C1()),0)+a1(C2(),an(dead,0)))",
            "(if 1 then \\a.1 else \\b.2) 0+(\\c.3) (dead 0)");
        sentence("where k, f are numbers");
        // ten GROUPS ahead of it, and ten FUNCTIONS
        StringBuilder text = new StringBuilder("dead");
        StringBuilder want = new StringBuilder("dead");
        for (int k = 0; k < 10; k++) {
            text.append(" (\\x.x)");
            want.insert(0, "an(").append(",C").append(k).append("())");
        }
        formIs(2, "a10:{C10()y.y}(" + want + "+a10(C10(),1))", text + "+(\\y.y) 1");
    }

    private static void backIs(String want, String text) { due("back of " + text, want, Sentences.back(text)); }

    private static void back() {
        sentence("BACK: the program with \\ VAR . dead for each LAMBDA and fun that is not CALLED, funs that are not MADE left out.");
        backIs("(\\x.dead)", "\\x.x");
        backIs("((\\x.x) 1)", "(\\x.x) 1");
        backIs("((\\x.(\\y.dead)) 1)", "(\\x.\\y.\\z.y) 1");
        backIs("1", "fun f x=x;1");
        backIs("fun f x=dead;f", "fun f x=x;f");
        backIs("fun f x=x;(f 1)", "fun f x=x;f 1");
        backIs("fun b x=x;fun c x=dead;(let v=c in (b 1))", "fun a x=x;fun b x=x;fun c x=a x;fun d x=c x;let v=c in b 1");
        backIs("fun f x=(let y=(\\z.dead) in x);(f 1)", "fun f x=let y=\\z.\\w.z in x;f 1");
        backIs("(if 0 then (dead (\\x.dead)) else 2)", "if 0 then dead (\\x.x) else 2");
    }

    private static void written() {
        sentence("NUMBER (its value: no 0 ahead of other digits), WORD, dead as they are");
        Sentences.shows("0", "0000");
        Sentences.shows("((((7+10)+900)+1000)+9009)", "0007+0010+0900+1000+9009");
        Sentences.shows("(\\abcd.((abcd dead) 0))", "\\abcd.abcd dead 0");
        sentence("and in ( ) else: (\\x.E), (if E then E else E), (let x=E in E), (E+E), (E E)");
        Sentences.shows("(\\x.x)", "(((\\x.x)))");
        Sentences.shows("(if 1 then 2 else 3)", "if 1 then 2 else 3");
        Sentences.shows("(let x=1 in x)", "let x=1 in x");
        for (String sign : new String[] {"+", "-", "*", "/", "<"}) Sentences.shows("(1" + sign + "2)", "1 " + sign + " 2");
        Sentences.shows("(dead 1)", "dead(1)");
        sentence("a fun: fun f x=E; without BLANKS but these.");
        Sentences.shows("fun f x=x;fun g x=(f x);(g 1)", "fun f x = x ; fun g x = f x ; g 1");
        Sentences.shows("fun f x=x;1", "\tfun\nf\tx=x ;\n1 ");
    }
}
