import java.io.IOException;

/** The sentences under 'Terms' that name a boundary case, in the document's order, each with a test of its own. */
public final class TextSentenceTests {
    private static final String[] KEYS = {"fun", "if", "then", "else", "let", "in", "dead"};

    public static void main(String[] args) throws IOException {
        bytesOfText();
        wordsNumbers();
        signsBlanks();
        keywords();
        functionsOfText();
        ends();
        operators();
        atoms();
        scopes();
        manyFunctions();
        manyThings();
        oneTooMany();
        nested();
        nestedAsFar();
        faults();
        faultsOfNames();
        numbering();
        types();
        typesOfParts();
        told();
        toldInBytes();
        Sentences.close("TextSentenceTests", args);
    }

    private static void sentence(String words) { Sentences.sentence(words); }

    private static void due(String what, Object want, Object got) { Sentences.due(what, want, got); }

    private static void functions(int many, String text) { Sentences.functions(many, text); }

    private static void wrongAt(int at, String text) { Sentences.wrongAt(at, text); }

    private static void untyped(String text) { Sentences.untyped(text); }

    private static void shows(String want, String text) { Sentences.shows(want, text); }

    private static void runs(String want, String text) { Sentences.runs(want, text); }

    private static Subject of(String text) { return Sentences.of(text); }

    private static String times(int many, String text) { return text.repeat(many); }

    // ---- bytes, WORDS, NUMBERS, SIGNS, BLANKS

    private static void bytesOfText() {
        sentence("THE PROGRAM is a text of at most 400 bytes");
        shows("(1+2)", "1" + times(397, " ") + "+2");
        shows("(\\x.(x+1))", times(394, "\n") + "\\x.x+1");
        wrongAt(399, "1" + times(398, " ") + ")");
        wrongAt(400, "1" + times(398, " ") + "+");
        wrongAt(399, times(399, " ") + "x");
        wrongAt(400, times(400, " "));
    }

    private static void wordsNumbers() {
        sentence("WORDS: 1 to 4 letters a to z");
        shows("fun a z=z;fun abcz zyxa=(abcz zyxa);(\\az.(let mnop=az in mnop))",
            "fun a z=z;fun abcz zyxa=abcz zyxa;\\az.let mnop=az in mnop");
        wrongAt(4, "fun abcde x=x;1");
        wrongAt(6, "fun f abcde=1;1");
        wrongAt(1, "\\abcde.1");
        wrongAt(4, "let abcde=1 in 1");
        wrongAt(0, "abcde");
        wrongAt(3, "1+ abcde");
        wrongAt(6, "\\abcd.abcde");
        wrongAt(0, "funny");
        wrongAt(0, "deads");
        wrongAt(5, "if 1 thens 2");
        for (char none : new char[] {'`', '{', 'A', 'Z', '@', '[', '_', '0', 225}) {
            wrongAt(1, "\\" + none + ".1");
            wrongAt(2, "\\a" + none + ".1");
            wrongAt(5, "\\abcd" + none + ".1");
        }
        sentence("NUMBERS: 1 to 4 digits");
        shows("(((0+9)+1000)+9999)", "0+9+1000+9999");
        shows("((0+1)+909)", "0000+0001+0909");
        shows("((dead 12) 345)", "dead 12 345");
        wrongAt(0, "12345");
        wrongAt(0, "00000");
        wrongAt(2, "1+12345");
        wrongAt(5, "dead 99999");
        wrongAt(5, "dead 1234567890123456789012345678901234567890");
    }

    private static void signsBlanks() {
        sentence("SIGNS: \\ . = ; ( ) + - * / <.");
        shows("fun f x=(((x+1)-2)<((3*4)/5));(\\y.(f y))", "fun f x=x+1-2<3*4/5;\\y.f(y)");
        for (int octet = 0; octet < 256; octet++) {
            char c = (char) octet;
            if (c == 9 || c == 10 || c == 32) {
                functions(0, "1 " + c);
            } else if (c >= '0' && c <= '9') {
                untyped("1 " + c);
            } else {
                // with these a text goes on, and more must come
                wrongAt("(+-*/<".indexOf(c) >= 0 ? 3 : 2, "1 " + c);
            }
        }
        sentence("BLANKS (9, 10, 32) may stand between all.");
        String wide = "fun f x = \\ y . if x < y then ( x ) else let z = 1 in z + 2 - 3 * 4 / 5 ; f dead 6";
        String close = "fun f x=(\\y.(if (x<y) then x else (let z=1 in ((z+2)-((3*4)/5)))));((f dead) 6)";
        shows(close, wide);
        shows(close, close);
        shows(close, wide.replace(' ', '\t'));
        shows(close, wide.replace(' ', '\n'));
        shows(close, "\n\t  " + wide.replace(" ", " \n\t") + " \t\n");
        shows("(if 1 then (dead 2) else 3)", "if(1)then(dead)2else(3)");
        shows("((((dead 1) dead) 2) dead)", "dead1dead 2dead");
        for (char none : new char[] {0, 1, 8, 11, 12, 13, 31, 33, 127, 128, 160, 255}) {
            wrongAt(0, none + "1");
            wrongAt(1, "1" + none);
            wrongAt(1, "1" + none + "+1");
        }
        wrongAt(0, "f un f x=1;1");
        wrongAt(5, "if 1 th en 2 else 3");
    }

    private static void keywords() {
        sentence("fun, if, then, else, let, in, dead are no NAMES, no VARS.");
        for (String key : KEYS) {
            wrongAt(4, "fun " + key + " x=1;1");
            wrongAt(6, "fun f " + key + "=1;1");
            wrongAt(1, "\\" + key + ".1");
            wrongAt(4, "let " + key + "=1 in 1");
        }
        for (String name : new String[] {"funs", "iff", "the", "els", "lets", "inn", "deaf", "fu", "i", "n", "d", "fn"}) {
            shows("fun " + name + " x=x;(\\" + name + ".(let " + name + "=" + name + " in " + name + "))",
                "fun " + name + " x=x;\\" + name + ".let " + name + "=" + name + " in " + name);
        }
    }

    // ---- EXPR

    private static void functionsOfText() {
        sentence("{ fun NAME VAR = EXPR ; } EXPR");
        functions(0, "1");
        functions(1, "fun f x=1;1");
        functions(2, "fun f x=1;fun g x=1;1");
        for (int end : new int[] {3, 5, 7, 8, 9, 10}) wrongAt(end, "fun f x=1;1".substring(0, end));
        wrongAt(4, "fun =1;1");
        wrongAt(6, "fun f =1;1");
        wrongAt(8, "fun f x y=1;1");
        wrongAt(8, "fun f x 1;1");
        wrongAt(8, "fun f x=;1");
        wrongAt(9, "fun f x=1)1");
        wrongAt(10, "fun f x=1;;1");
        wrongAt(1, "1;");
        wrongAt(2, "1 fun f x=1;1");
        sentence("(The functions told by fun are GLOBALS; the last EXPR is MAIN.)");
        Subject x = of("fun f x=dead;7");
        due("GLOBALS", 1, x.count(0));
        due("LAMBDAS", 0, x.count(1));
        due("MAIN is what runs", "0 7 0 0 0", Sentences.runRow(x, 0));
    }

    private static void ends() {
        sentence("EXPR: \\ VAR . EXPR (a LAMBDA)");
        shows("(\\x.((x+1)<2))", "\\x.x+1<2");
        shows("(\\x.(if x then 1 else 2))", "\\x.if x then 1 else 2");
        for (int end : new int[] {1, 2, 3}) wrongAt(end, "\\x.x".substring(0, end));
        wrongAt(1, "\\.1");
        wrongAt(2, "\\x=1");
        wrongAt(3, "\\x y.1");
        sentence("if EXPR then EXPR else EXPR");
        shows("(if 1 then 2 else (3<4))", "if 1 then 2 else 3<4");
        shows("(if (if 1 then 2 else 3) then (\\x.x) else (\\y.y))", "if if 1 then 2 else 3 then \\x.x else \\y.y");
        for (int end : new int[] {2, 4, 9, 11, 16}) wrongAt(end, "if 1 then 2 else 3".substring(0, end));
        wrongAt(3, "if then 1 else 2");
        wrongAt(5, "if 1 else 2");
        wrongAt(10, "if 1 then else 2");
        wrongAt(12, "if 1 then 2 then 3");
        wrongAt(12, "if 1 then 2 in 3");
        sentence("let VAR = EXPR in EXPR");
        shows("(let x=(let y=1 in y) in (x<2))", "let x=let y=1 in y in x<2");
        for (int end : new int[] {3, 5, 6, 7, 10}) wrongAt(end, "let x=1 in 2".substring(0, end));
        wrongAt(4, "let =1 in 2");
        wrongAt(6, "let x 1 in 2");
        wrongAt(6, "let x=in 2");
        wrongAt(8, "let x=1 then 2");
    }

    private static void operators() {
        sentence("TEST: SUM [ < SUM ].");
        shows("((1+2)<(3-4))", "1+2<3-4");
        shows("((1<2)<3)", "(1<2)<3");
        wrongAt(3, "1<2<3");
        wrongAt(2, "1<");
        wrongAt(0, "<1");
        sentence("SUM: PRODUCT { + PRODUCT or - PRODUCT }.");
        shows("(((1-2)+3)-4)", "1-2+3-4");
        shows("((1*2)-(3/4))", "1*2-3/4");
        wrongAt(0, "-1");
        wrongAt(2, "1+-2");
        wrongAt(2, "1-");
        sentence("PRODUCT: CALL { * CALL or / CALL }.");
        shows("(((1/2)*3)/4)", "1/2*3/4");
        shows("((dead 1)*(dead 2))", "dead 1*dead 2");
        wrongAt(2, "1*/2");
        wrongAt(2, "1/");
    }

    private static void atoms() {
        sentence("CALL: ATOM { ATOM } (a function and its argument, a SITE each; from the left on).");
        shows("dead", "dead");
        shows("(((dead 1) dead) 2)", "dead 1 dead 2");
        due("a SITE each", 3, of("dead 1 dead 2").count(2));
        due("no SITE of one alone", 0, of("dead").count(2));
        sentence("ATOM: NUMBER | WORD | dead | ( EXPR ).");
        shows("(\\x.((((dead x) 1) dead) (\\y.y)))", "\\x.dead x 1 dead (\\y.y)");
        wrongAt(1, "()");
        wrongAt(2, "(1");
        wrongAt(2, "(1;");
        wrongAt(5, "dead \\x.x");
        wrongAt(5, "dead if 1 then 2 else 3");
        wrongAt(5, "dead let x=1 in x");
        wrongAt(2, "1+\\x.x");
        wrongAt(2, "1<if 1 then 2 else 3");
        wrongAt(2, "1*let x=1 in x");
    }

    private static void scopes() {
        sentence("(the innermost of that name: of a LAMBDA in its EXPR, of let in the EXPR behind in, of fun in its EXPR)");
        wrongAt(7, "(\\x.x) x");
        wrongAt(13, "fun f x=\\y.y;y");
        wrongAt(17, "fun f x=(\\y.1) 2+y;1");
        wrongAt(6, "let x=x in 1");
        wrongAt(15, "(let x=1 in x) x");
        wrongAt(10, "fun f x=1;x");
        wrongAt(18, "fun f x=1;fun g y=x;1");
        runs("0 2 0 0 0", "let x=1 in let x=2 in x");
        runs("0 2 0 0 0", "let x=1 in let x=x+1 in x");
        runs("0 21 0 0 0", "let x=1 in (let x=20 in x)+x");
        runs("0 32 1 1 1", "let x=1 in (\\x.x+1) 31");
        runs("0 8 2 1 3", "(\\x.\\x.x) 7 8");
        runs("0 5 1 1 1", "fun f x=let x=5 in x;f 1");
        runs("0 3 1 1 1", "fun f x=let y=x in let x=0 in y;f 3");
        sentence("or else a GLOBAL that was told ahead, or is being told.");
        functions(2, "fun f x=x;fun g x=f x;g 1");
        functions(1, "fun f x=f x;1");
        wrongAt(8, "fun f x=g x;fun g x=x;1");
        wrongAt(8, "fun f x=g x;1");
        runs("0 5 0 0 0", "fun f x=x;let f=5 in f");
        runs("0 6 1 1 1", "fun f f=f;f 6");
        runs("0 9 1 1 2", "fun x y=y;(\\x.x) 9");
    }

    // ---- how many

    private static String globals(int many) {
        StringBuilder text = new StringBuilder();
        for (int k = 0; k < many; k++) text.append("fun ").append((char) ('a' + k)).append(" x=x;");
        return text.toString();
    }

    private static void manyFunctions() {
        sentence("At most 6 GLOBALS");
        functions(6, globals(6) + "f 1");
        due("six of them", 6, of(globals(6) + "f 1").count(0));
        wrongAt(60, globals(6) + "fun g x=x;1");
        wrongAt(61, globals(6) + " fun");
        wrongAt(60, globals(6) + "fun a x=x;1");
        sentence("18 LAMBDAS");
        functions(18, times(18, "(\\x.x)"));
        due("eighteen of them", 18, of(times(18, "(\\x.x)")).count(1));
        wrongAt(109, times(18, "(\\x.x)") + "(\\x.x)");
        functions(18, times(18, "\\x.") + "x");
        wrongAt(54, times(18, "\\x.") + "\\y.y");
        functions(19, "fun f a=" + times(9, "\\x.") + "1;" + times(9, "\\x.") + "1");
        wrongAt(64, "fun f a=" + times(9, "\\x.") + "1;" + times(9, "\\x.") + "\\y.1");
        functions(24, globals(6) + times(18, "\\x.") + "1");
    }

    private static final String SUM = times(49, "1+") + "1";

    private static void manyThings() {
        sentence("100 THINGS (NUMBERS, WORDS in EXPR, dead, LAMBDAS, ifs, lets, operators, SITES, each of them 1)");
        due("a NUMBER", 1, of("9999").count(3));
        due("a WORD, a LAMBDA", 2, of("\\x.x").count(3));
        due("dead", 1, of("dead").count(3));
        due("an if", 4, of("if 1 then 2 else 3").count(3));
        due("a let", 3, of("let x=1 in 2").count(3));
        for (String sign : new String[] {"+", "-", "*", "/", "<"}) due("an operator", 3, of("1" + sign + "2").count(3));
        due("a SITE", 3, of("dead 1").count(3));
        due("( ), what fun tells, are none", 2, of("fun f x=((1));((2))").count(3));
        due("99", 99, of(SUM).count(3));
        due("100", 100, of("\\x." + SUM).count(3));
        String several = "fun f x=" + times(24, "1+") + "1;fun g x=x;\\x." + times(24, "1+") + "1";
        due("100 in several EXPR", 100, of(several).count(3));
        wrongAt(several.length(), several + "+1");
        wrongAt(102, "\\x." + SUM + "+1");
    }

    private static void oneTooMany() {
        String full = "let x=" + SUM + " in ";
        String hundred = "\\x." + SUM;
        sentence("a THING too many at its first byte");
        for (String one : new String[] {"1", "9999", "x", "dead", "\\y.y", "if x then x else x", "let y=x in y"}) {
            wrongAt(full.length(), full + one);
            wrongAt(full.length() + 3, full + "( (" + one + "))");
        }
        sentence("an operator at its sign");
        for (String sign : new String[] {"+", "-", "*", "/", "<"}) {
            wrongAt(hundred.length(), hundred + sign + "1");
            wrongAt(hundred.length() + 2, hundred + "  " + sign);
            // here it is the 100th, and what stands right of it one too many
            wrongAt(SUM.length() + 1, SUM + sign + "1");
            wrongAt(SUM.length() + 1, SUM + sign);
        }
        sentence("a SITE at the first byte of its argument");
        for (String argument : new String[] {"1", "x", "dead", "(1)", "((x))", "(\\y.y)"}) {
            wrongAt(hundred.length() + 1, hundred + " " + argument);
            wrongAt(hundred.length() + 3, hundred + " \t\n" + argument);
        }
        // here it is the 100th, and what its argument has one too many
        wrongAt(SUM.length() + 1, SUM + " 1");
        wrongAt(SUM.length() + 2, SUM + " (1)");
        wrongAt(SUM.length() + 3, SUM + " (\t\\y.y)");
    }

    private static void nested() {
        sentence("20 of ( \\ if let that lie within one another");
        shows("1", times(20, "(") + "1" + times(20, ")"));
        wrongAt(20, times(21, "(") + "1" + times(21, ")"));
        functions(18, times(18, "\\x.") + "((x))");
        wrongAt(56, times(18, "\\x.") + "(((x)))");
        functions(1, times(19, "(") + "\\x.x" + times(19, ")"));
        wrongAt(20, times(20, "(") + "\\x.x" + times(20, ")"));
        functions(0, times(20, "if 1 then 1 else ") + "1");
        wrongAt(340, times(20, "if 1 then 1 else ") + "if 1 then 1 else 1");
        functions(0, times(20, "if ") + "1" + times(20, " then 1 else 1"));
        wrongAt(60, times(21, "if ") + "1" + times(21, " then 1 else 1"));
        functions(0, times(20, "if 1 then ") + "1" + times(20, " else 1"));
        wrongAt(200, times(20, "if 1 then ") + "(1)" + times(20, " else 1"));
        functions(0, times(20, "let x=1 in ") + "x");
        wrongAt(220, times(20, "let x=1 in ") + "let x=1 in x");
        wrongAt(220, times(20, "let x=1 in ") + "\\x.x");
        wrongAt(220, times(20, "let x=1 in ") + "(x)");
        functions(0, times(20, "let x=") + "1" + times(20, " in x"));
        // 21 VARS of which each can be meant: that of the fun, and of 20 lets
        StringBuilder lets = new StringBuilder("fun f a=");
        for (char c = 'b'; c <= 'u'; c++) lets.append("let ").append(c).append('=').append((char) (c - 1)).append("+1 in ");
        runs("0 21 1 1 1", lets + "u;f 1");
        runs("0 1 1 1 1", lets + "a;f 1");
        wrongAt(120, times(21, "let x=") + "1" + times(21, " in x"));
    }

    private static void nestedAsFar() {
        sentence("(a ( from there to its ), others as far as their EXPR goes)");
        String nineteen = times(19, "(");
        String ends = times(19, ")");
        functions(0, nineteen + times(30, "(1)+") + "(1)" + ends);
        wrongAt(19 + 32 + 1, nineteen + times(8, "(1)+") + "((1))" + ends);
        functions(0, nineteen + "if 1 then 2 else 3" + ends + "+(1)");
        wrongAt(19 + 3, nineteen + "if (1) then 2 else 3" + ends);
        wrongAt(19 + 10, nineteen + "if 1 then (2) else 3" + ends);
        wrongAt(19 + 17, nineteen + "if 1 then 2 else (3)" + ends);
        wrongAt(19 + 6, nineteen + "let x=(1) in 2" + ends);
        wrongAt(19 + 11, nineteen + "let x=1 in (2)" + ends);
        wrongAt(19 + 3, nineteen + "\\x.(x)" + ends);
        wrongAt(19 + 5, nineteen + "\\x.x+(x)" + ends);
        // then, else, in, ) and ; are the end of an EXPR, and of all that goes as far
        String eighteen = times(18, "(");
        String close = times(18, ")");
        functions(3, eighteen + "if dead then \\x.x else \\y.y" + close + "(\\z.z)");
        functions(2, eighteen + "let a=\\x.x in \\y.y" + close);
        functions(0, eighteen + "if if 1 then 1 else 1 then if 1 then 1 else 1 else if 1 then 1 else 1" + close);
        functions(0, eighteen + "let a=let b=1 in b in let c=2 in c" + close);
        functions(1, eighteen + "(\\x.x) (1)" + close);
        functions(3, "fun f x=" + eighteen + "(\\y.y)" + close + ";" + eighteen + "(\\z.z)" + close);
    }

    // ---- THE FAULT

    private static void faults() {
        sentence("THE FAULT: the first byte with which no such text goes on");
        wrongAt(0, ")");
        wrongAt(0, "=1");
        wrongAt(0, "then");
        wrongAt(0, "in");
        wrongAt(2, "1 )");
        wrongAt(2, "1 then 2");
        wrongAt(2, "1 =2");
        wrongAt(2, "1 .");
        wrongAt(5, "1\t \n ?");
        wrongAt(4, "(1+2;\\");
        // the first of several
        wrongAt(1, "1;2;3");
        wrongAt(2, "1+)+abcde+12345");
        wrongAt(2, "1+abcde)");
        sentence("(one of its parts too long or one too many begins there, too");
        wrongAt(0, "abcdefghij");
        wrongAt(0, "1234567890");
        wrongAt(3, "1+ abcdef");
        wrongAt(3, "1+ 123456789");
        wrongAt(2, "1 12345678901234567890");
        wrongAt(2, "1 abcdefghijklmnopqrst");
        wrongAt(62, globals(6) + "\n\tfun g x=x;1");
        sentence("the text's length, if more must come.");
        wrongAt(0, "");
        wrongAt(1, " ");
        wrongAt(2, "1+");
        wrongAt(5, "1+ \t\n");
        wrongAt(1, "(");
        wrongAt(2, "((");
        wrongAt(4, "(1)(");
        wrongAt(7, "dead 1*");
        wrongAt(17, "if 1 then 2 else ");
        wrongAt(11, "fun f x=1; ");
        wrongAt(20, times(20, "("));
    }

    private static void faultsOfNames() {
        sentence("A GLOBAL's NAME told twice, a WORD that is none of these: at its first byte.");
        wrongAt(14, "fun f x=x;fun f y=y;1");
        wrongAt(17, "fun abcd x=x;fun abcd y=y;1");
        wrongAt(24, "fun f x=x;fun g x=x;fun f x=x;1");
        functions(2, "fun f x=x;fun ff x=x;1");
        functions(2, "fun fg x=x;fun f x=x;1");
        functions(2, "fun f x=x;fun x f=f;1");
        wrongAt(0, "abcd");
        wrongAt(3, "\\x.y");
        wrongAt(3, "\\x.xx");
        wrongAt(4, "\\xx.x");
        wrongAt(6, "\\abcd.abce");
        wrongAt(6, "\\abcd.abc");
        wrongAt(5, "if 1 the 2 else 3");
        wrongAt(4, "1 + a b");
    }

    // ---- FUNCTIONS, SITES

    private static void numbering() {
        sentence("FUNCTIONS: GLOBALS, then LAMBDAS, numbered from 0 on as they begin in the text.");
        Subject x = of("fun f a=\\b.\\c.b;fun g d=\\e.e;(\\h.\\i.h) (\\j.j)");
        due("GLOBALS first", "1 1 0 0 0 0 0 0 IndexOutOfBounds", Sentences.row(9, f -> x.function(f, 1)));
        due("as they begin", "-1 -1 0 2 1 -1 5 -1", Sentences.row(8, f -> x.function(f, 0)));
        due("the outer ahead of the inner", 1 | 4, of("dead (\\a.\\b.a) (\\c.c)").count(5));
        sentence("HOME of a LAMBDA, of a SITE: the FUNCTION in whose EXPR it is written (the innermost), or MAIN.");
        due("LAMBDAS within LAMBDAS", "-1 0 1 1", Sentences.row(4, f -> of("\\a.\\b.dead (\\c.c) (\\d.d)").function(f, 0)));
        Subject y = of("fun f a=dead 1 (\\b.dead 2);dead 3 (\\c.let d=dead 4 in if dead 5 then 6 else dead 7)");
        due("SITES", "0 0 1 -1 -1 2 2 2 IndexOutOfBounds", Sentences.row(9, site -> y.site(site, 0)));
        sentence("SITES are numbered from 0 on as their arguments begin.");
        Subject z = of("(\\a.a) ((\\b.b) (\\c.c)) ((\\d.d) (\\e.e)) (\\g.g)");
        // their arguments: (\b.b) (\c.c); \c; (\d.d) (\e.e); \e; \g
        due("what comes as the arguments", "4 4 16 16 32", Sentences.row(5, site -> z.site(site, 2)));
    }

    // ---- TYPES

    private static void types() {
        sentence("i of NUMBERS, operators, what stands with operators and behind if");
        due("a NUMBER", "i", Sentences.typeOfMain("0"));
        for (String sign : new String[] {"+", "-", "*", "/", "<"}) {
            due("of " + sign, "i", Sentences.typeOfMain("dead" + sign + "dead"));
            due("what stands with " + sign, "(i>(i>i))", Sentences.typeOfMain("\\x.\\y.x" + sign + "y"));
            untyped("(\\x.x)" + sign + "1");
            untyped("1" + sign + "(\\x.x)");
            untyped("(1" + sign + "1) 1");
        }
        due("behind if", "(i>a)", Sentences.typeOfMain("\\x.if x then dead else dead"));
        untyped("if \\x.x then 1 else 2");
        sentence("(T>U) of FUNCTIONS; dead has any.");
        due("of a LAMBDA", "(a>i)", Sentences.typeOf(0, "\\x.1"));
        due("of a GLOBAL", "(a>i)", Sentences.typeOf(0, "fun f x=1;2"));
        due("dead alone", "a", Sentences.typeOfMain("dead"));
        functions(2, "dead+1+(if dead then dead else 1)+dead 1 (\\x.dead) dead+(\\y.y 1) dead");
        sentence("A VAR, a GLOBAL has one TYPE all through");
        untyped("let f=\\x.x in dead (f 1) (f (\\y.y))");
        untyped("fun f x=x;dead (f 1) (f (\\y.y))");
        untyped("\\f.dead (f 1) (f (\\y.y))");
        untyped("fun f x=1;fun g x=f (\\y.y);f 1");
        functions(2, "let f=\\x.x in let g=\\x.x in dead (f 1) (g f)");
    }

    private static void typesOfParts() {
        sentence("both ends of an if are alike");
        untyped("if 1 then 1 else \\x.x");
        untyped("if 1 then \\x.x else 1");
        untyped("if 1 then \\x.x+1 else \\y.y 1");
        due("both ends", "(i>i)", Sentences.typeOfMain("if 1 then \\x.x else \\y.1"));
        sentence("what is applied is (T>U), its argument T, the SITE U.");
        untyped("1 1");
        untyped("(\\x.x+1) (\\y.y)");
        untyped("(\\x.x+1) 1 1");
        due("T and U", "((a>b)>(a>b))", Sentences.typeOfMain("\\f.\\x.f x"));
        sentence("The program must TYPE");
        untyped("fun f x=f+1;1");
        untyped("if 0 then 1 1 else 2");
        untyped("(\\x.1) (\\y.dead (y 1) (y (\\z.z)))");
        sentence("(No TYPE lies in itself.)");
        untyped("\\x.x x");
        untyped("fun f x=f;1");
        untyped("fun f x=\\y.f;1");
        untyped("\\f.\\g.dead (f g) (g f)");
        untyped("let y=\\f.\\x.f (x x) in 1");
        untyped("\\x.if 1 then x else \\y.x");
        untyped("let l=dead in if 1 then l else \\x.l");
    }

    private static void told() {
        sentence("what is left open is told a, b, .. (27 and more: z) in the order in which it is written");
        due("as it is written", "((a>b)>((c>a)>(c>b)))", Sentences.typeOf(0, "\\f.\\g.\\x.f (g x)"));
        due("of one within, from a on", "((a>b)>(a>c))", Sentences.typeOf(1, "\\f.\\g.\\x.f (g x)"));
        due("of the innermost, from a on", "(a>b)", Sentences.typeOf(2, "\\f.\\g.\\x.f (g x)"));
        due("of MAIN, from a on", "(a>b)", Sentences.typeOfMain("fun f x=\\y.y;\\x.dead"));
        Subject x = of("\\f.\\g.\\x.f (g x)");
        due("one told behind another", "((a>b)>((c>a)>(c>b))) ((a>b)>(a>c)) (a>b)",
            Sentences.row(3, f -> Checks.told(x, () -> x.type(f))));
        for (int many : new int[] {1, 2, 24, 25, 26, 27, 28, 40}) {
            // \f.f dead .. dead: what is applied to so many that are open gives one more
            StringBuilder want = new StringBuilder("(");
            for (int k = 0; k < many; k++) want.append('(').append(letter(k)).append('>');
            want.append(letter(many)).append(times(many, ")")).append('>').append(letter(many)).append(')');
            due(many + " and one", want.toString(), Sentences.typeOf(0, "\\f.f" + times(many, " dead")));
        }
    }

    private static char letter(int k) { return k < 26 ? (char) ('a' + k) : 'z'; }

    private static void toldInBytes() {
        sentence("of more than 300 bytes the first 300");
        // A TYPE of n arrows has 4 n + 1 bytes. \g.g and 19 dead: 20 arrows; \f.f v v v and 10 or 11 dead: 74 or 75.
        String twenty = "\\g.g" + times(19, " dead");
        due("20 arrows", 81, of(twenty).typeOfMain());
        Subject x = of("let v=" + twenty + " in \\f.f v v v" + times(10, " dead"));
        due("297 bytes", 297, x.typeOfMain());
        due("to the end", ")))>z)", Checks.shown(x).substring(291));
        due("297 of the LAMBDA", 297, x.type(1));
        Subject y = of("let v=" + twenty + " in \\f.f v v v" + times(11, " dead"));
        due("301 are 300", 300, y.typeOfMain());
        String shown = Checks.shown(y);
        due("the last one is missing", ")))>z", shown.substring(295));
        due("from the first on", "((((a>(b>", shown.substring(0, 9));
        due("300 of the LAMBDA", 300, y.type(1));
        due("the same", shown, Checks.shown(y));
        due("a short one", 81, y.type(0));
        // each (\p.\f.f p p) makes a TYPE twice as long
        Subject z = of(times(8, "(\\p.\\f.f p p)(") + "1" + times(8, ")"));
        due("far more", 300, z.typeOfMain());
        due("of a FUNCTION", 300, z.type(0));
    }
}
