import java.util.ArrayList;
import java.util.HashMap;
import java.util.LinkedHashSet;
import java.util.List;
import java.util.Map;
import java.util.Set;
import java.util.TreeSet;

/**
 * The document once more, written in another way than the program: trees, sets and maps, methods that call themselves,
 * a form that really is run by its cases. The sweeps hold the program's answers against those of this.
 */
final class Model {
    static final class Fault extends Exception {
        private static final long serialVersionUID = 1;
        final int at;
        Fault(int at) { this.at = at; }
    }

    static final class Untyped extends Exception {
        private static final long serialVersionUID = 1;
    }

    static final class Tree {
        final String kind;
        final List<Tree> kids = new ArrayList<>();
        int number;
        Var var;
        Fn fn;
        Fn owner;
        Tree(String kind, Fn owner) { this.kind = kind; this.owner = owner; }
    }

    static final class Var {
        final String name;
        final Set<Fn> has = new LinkedHashSet<>();
        final Type type = new Type("open");
        Var(String name) { this.name = name; }
    }

    static final class Fn {
        String name;
        Var var;
        Tree body;
        Fn home;
        boolean global;
        int number;
        final Type type = new Type("arrow");
    }

    static final class Type {
        String kind;
        Type same;
        Type taken;
        Type given;
        Type(String kind) { this.kind = kind; }
    }

    static final Set<String> KEYS = Set.of("fun", "if", "then", "else", "let", "in", "dead");

    final boolean limits;
    final List<String> tokens = new ArrayList<>();
    final List<Integer> begins = new ArrayList<>();
    int next = 0;
    int things = 0;
    final List<Fn> globals = new ArrayList<>();
    final List<Fn> lambdas = new ArrayList<>();
    final List<Fn> fns = new ArrayList<>();
    final List<Tree> sites = new ArrayList<>();
    Tree main;

    Model(byte[] text, boolean limits) throws Fault {
        this.limits = limits;
        cut(text);
        while (peek().equals("fun")) readFun();
        main = expr(null, new ArrayList<>(), 0);
        if (!peek().isEmpty()) throw here();
        fns.addAll(globals);
        fns.addAll(lambdas);
        for (int k = 0; k < fns.size(); k++) fns.get(k).number = k;
    }

    // ---- the text

    private void cut(byte[] text) {
        int k = 0;
        while (k < text.length) {
            char c = (char) (text[k] & 255);
            int from = k;
            if (c == ' ' || c == '\t' || c == '\n') { k++; continue; }
            if (c >= 'a' && c <= 'z') while (k < text.length && text[k] >= 'a' && text[k] <= 'z') k++;
            else if (c >= '0' && c <= '9') while (k < text.length && text[k] >= '0' && text[k] <= '9') k++;
            else k++;
            StringBuilder word = new StringBuilder();
            for (int j = from; j < k; j++) word.append((char) (text[j] & 255));
            tokens.add(word.toString());
            begins.add(from);
        }
        tokens.add("");
        begins.add(text.length);
    }

    private String peek() { return tokens.get(next); }

    private Fault here() { return new Fault(begins.get(next)); }

    private void eat(String due) throws Fault {
        if (!peek().equals(due)) throw here();
        next++;
    }

    private boolean isName() { return peek().matches("[a-z]{1,4}") && !KEYS.contains(peek()); }

    private String eatName() throws Fault {
        if (!isName()) throw here();
        return tokens.get(next++);
    }

    private void thing() throws Fault {
        things++;
        if (limits && things > 100) throw here();
    }

    private void deep(int depth) throws Fault {
        if (limits && depth >= 20) throw here();
    }

    private void readFun() throws Fault {
        if (limits && globals.size() == 6) throw here();
        next++;
        for (Fn other : globals) if (other.name.equals(peek())) throw here();
        Fn f = new Fn();
        f.global = true;
        f.name = eatName();
        globals.add(f);
        f.var = new Var(eatName());
        eat("=");
        f.body = expr(f, new ArrayList<>(List.of(f.var)), 0);
        eat(";");
    }

    private Tree expr(Fn owner, List<Var> scope, int depth) throws Fault {
        Tree made;
        switch (peek()) {
            case "\\": {
                thing();
                deep(depth);
                if (limits && lambdas.size() == 18) throw here();
                Fn f = new Fn();
                f.home = owner;
                lambdas.add(f);
                next++;
                f.var = new Var(eatName());
                eat(".");
                scope.add(f.var);
                f.body = expr(f, scope, depth + 1);
                scope.remove(scope.size() - 1);
                made = new Tree("lambda", owner);
                made.fn = f;
                return made;
            }
            case "if":
                thing();
                deep(depth);
                next++;
                made = new Tree("if", owner);
                made.kids.add(expr(owner, scope, depth + 1));
                eat("then");
                made.kids.add(expr(owner, scope, depth + 1));
                eat("else");
                made.kids.add(expr(owner, scope, depth + 1));
                return made;
            case "let":
                thing();
                deep(depth);
                next++;
                made = new Tree("let", owner);
                made.var = new Var(eatName());
                eat("=");
                made.kids.add(expr(owner, scope, depth + 1));
                eat("in");
                scope.add(made.var);
                made.kids.add(expr(owner, scope, depth + 1));
                scope.remove(scope.size() - 1);
                return made;
            default: {
                Tree left = binary(owner, scope, depth, 1);
                if (peek().equals("<")) left = operator(left, owner, scope, depth, 1);
                return left;
            }
        }
    }

    private static int rank(String sign) {
        switch (sign) {
            case "+": case "-": return 1;
            case "*": case "/": return 2;
            default: return 0;
        }
    }

    private Tree binary(Fn owner, List<Var> scope, int depth, int least) throws Fault {
        Tree left = call(owner, scope, depth);
        while (rank(peek()) >= least) left = operator(left, owner, scope, depth, rank(peek()) + 1);
        return left;
    }

    private Tree operator(Tree left, Fn owner, List<Var> scope, int depth, int least) throws Fault {
        thing();
        Tree made = new Tree(tokens.get(next++), owner);
        made.kids.add(left);
        made.kids.add(binary(owner, scope, depth, least));
        return made;
    }

    private boolean atom() {
        return isName() || peek().equals("dead") || peek().equals("(") || peek().matches("[0-9]{1,4}");
    }

    private Tree call(Fn owner, List<Var> scope, int depth) throws Fault {
        Tree left = readAtom(owner, scope, depth);
        while (atom()) {
            thing();
            Tree made = new Tree("site", owner);
            made.number = sites.size();
            sites.add(made);
            made.kids.add(left);
            made.kids.add(readAtom(owner, scope, depth));
            left = made;
        }
        return left;
    }

    private Tree readAtom(Fn owner, List<Var> scope, int depth) throws Fault {
        if (!atom()) throw here();
        if (peek().equals("(")) {
            deep(depth);
            next++;
            Tree within = expr(owner, scope, depth + 1);
            eat(")");
            return within;
        }
        thing();
        if (peek().equals("dead")) { next++; return new Tree("dead", owner); }
        if (!isName()) {
            Tree made = new Tree("number", owner);
            made.number = Integer.parseInt(tokens.get(next++));
            return made;
        }
        for (int k = scope.size() - 1; k >= 0; k--) {
            if (scope.get(k).name.equals(peek())) {
                next++;
                Tree made = new Tree("var", owner);
                made.var = scope.get(k);
                return made;
            }
        }
        for (Fn f : globals) {
            if (f.name.equals(peek())) {
                next++;
                Tree made = new Tree("global", owner);
                made.fn = f;
                return made;
            }
        }
        throw here();
    }

    // ---- types

    static final Type INT = new Type("int");

    static Type arrow(Type taken, Type given) {
        Type made = new Type("arrow");
        made.taken = taken;
        made.given = given;
        return made;
    }

    static Type end(Type t) { return t.same == null ? t : end(t.same); }

    static boolean within(Type open, Type t, Set<Type> seen) {
        t = end(t);
        if (t == open) return true;
        if (!t.kind.equals("arrow") || !seen.add(t)) return false;
        return within(open, t.taken, seen) || within(open, t.given, seen);
    }

    static void make(Type a, Type b) throws Untyped {
        a = end(a);
        b = end(b);
        if (a == b) return;
        if (!a.kind.equals("open") && b.kind.equals("open")) { Type c = a; a = b; b = c; }
        if (a.kind.equals("open")) {
            if (within(a, b, new LinkedHashSet<>())) throw new Untyped();
            a.same = b;
        } else {
            if (!a.kind.equals(b.kind)) throw new Untyped();
            make(a.taken, b.taken);
            make(a.given, b.given);
            a.same = b;
        }
    }

    Type mainType;

    void infer() throws Untyped {
        for (Fn f : fns) { f.type.taken = f.var.type; f.type.given = new Type("open"); }
        for (Fn f : globals) make(typed(f.body), f.type.given);
        mainType = typed(main);
    }

    private Type typed(Tree t) throws Untyped {
        switch (t.kind) {
            case "number": return INT;
            case "dead": return new Type("open");
            case "var": return t.var.type;
            case "global": return t.fn.type;
            case "lambda":
                make(typed(t.fn.body), t.fn.type.given);
                return t.fn.type;
            case "if": {
                make(typed(t.kids.get(0)), INT);
                Type first = typed(t.kids.get(1));
                make(first, typed(t.kids.get(2)));
                return first;
            }
            case "let":
                make(t.var.type, typed(t.kids.get(0)));
                return typed(t.kids.get(1));
            case "site": {
                Type given = new Type("open");
                Type applied = typed(t.kids.get(0));
                make(applied, arrow(typed(t.kids.get(1)), given));
                return given;
            }
            default:
                make(typed(t.kids.get(0)), INT);
                make(typed(t.kids.get(1)), INT);
                return INT;
        }
    }

    static String told(Type t) {
        StringBuilder out = new StringBuilder();
        tell(t, new ArrayList<>(), out);
        return out.length() > 300 ? out.substring(0, 300) : out.toString();
    }

    private static void tell(Type t, List<Type> open, StringBuilder out) {
        t = end(t);
        if (out.length() > 300) return;
        if (t == INT) { out.append('i'); return; }
        if (t.kind.equals("open")) {
            if (!open.contains(t)) open.add(t);
            out.append("abcdefghijklmnopqrstuvwxyz".charAt(Math.min(open.indexOf(t), 25)));
            return;
        }
        out.append('(');
        tell(t.taken, open, out);
        out.append('>');
        tell(t.given, open, out);
        out.append(')');
    }

    static boolean one(Type a, Type b) {
        a = end(a);
        b = end(b);
        if (a == b) return true;
        if (!a.kind.equals("arrow") || !b.kind.equals("arrow")) return false;
        return one(a.taken, b.taken) && one(a.given, b.given);
    }

    // ---- what comes where

    final Set<Fn> made = new LinkedHashSet<>();
    final Set<Fn> called = new LinkedHashSet<>();
    final Map<Tree, Set<Fn>> comes = new HashMap<>();
    private boolean more;

    void flow() {
        do {
            more = false;
            come(main);
            for (Fn f : fns) if (called.contains(f)) come(f.body);
        } while (more);
    }

    private Set<Fn> of(Tree t) { return comes.computeIfAbsent(t, x -> new LinkedHashSet<>()); }

    private Set<Fn> come(Tree t) {
        Set<Fn> got = of(t);
        for (Tree kid : t.kids) come(kid);
        switch (t.kind) {
            case "global": case "lambda":
                more |= made.add(t.fn) | got.add(t.fn);
                break;
            case "var":
                more |= got.addAll(t.var.has);
                break;
            case "if":
                more |= got.addAll(of(t.kids.get(1))) | got.addAll(of(t.kids.get(2)));
                break;
            case "let":
                more |= t.var.has.addAll(of(t.kids.get(0))) | got.addAll(of(t.kids.get(1)));
                break;
            case "site":
                for (Fn f : new ArrayList<>(of(t.kids.get(0)))) {
                    more |= called.add(f) | f.var.has.addAll(of(t.kids.get(1))) | got.addAll(of(f.body));
                }
                break;
            default:
                break;
        }
        return got;
    }

    boolean looked(Fn owner) { return owner == null || called.contains(owner); }

    static int bits(Iterable<Fn> set) {
        int bits = 0;
        for (Fn f : set) bits |= 1 << f.number;
        return bits;
    }

    Set<Fn> applied(Tree site) { return looked(site.owner) ? of(site.kids.get(0)) : Set.of(); }

    static List<Var> fieldsOf(Fn f) {
        List<Var> out = new ArrayList<>();
        free(f.body, new ArrayList<>(List.of(f.var)), out);
        return out;
    }

    private static void free(Tree t, List<Var> bound, List<Var> out) {
        if (t.kind.equals("var") && !bound.contains(t.var) && !out.contains(t.var)) out.add(t.var);
        if (t.kind.equals("lambda")) {
            bound.add(t.fn.var);
            free(t.fn.body, bound, out);
            bound.remove(t.fn.var);
        }
        for (int k = 0; k < t.kids.size(); k++) {
            if (t.kind.equals("let") && k == 1) bound.add(t.var);
            free(t.kids.get(k), bound, out);
        }
        if (t.kind.equals("let")) bound.remove(t.var);
    }

    private final Map<Integer, List<Set<Fn>>> grouped = new HashMap<>();

    List<Set<Fn>> groups(int split) { return grouped.computeIfAbsent(split, this::group); }

    private List<Set<Fn>> group(int split) {
        List<Set<Fn>> all = new ArrayList<>();
        for (Fn f : fns) {
            if (!made.contains(f)) continue;
            Set<Fn> own = new TreeSet<>((a, b) -> a.number - b.number);
            own.add(f);
            List<Set<Fn>> rest = new ArrayList<>();
            for (Set<Fn> other : all) {
                if (joined(split, f, other)) own.addAll(other); else rest.add(other);
            }
            rest.add(own);
            all = rest;
        }
        all.sort((a, b) -> a.iterator().next().number - b.iterator().next().number);
        return all;
    }

    private boolean joined(int split, Fn f, Set<Fn> others) {
        for (Fn g : others) {
            if (split == 0 || split == 1 && one(f.type, g.type)) return true;
            for (Tree site : sites) {
                if (split == 2 && applied(site).contains(f) && applied(site).contains(g)) return true;
            }
        }
        return false;
    }

    int groupOf(int split, Fn f) {
        List<Set<Fn>> all = groups(split);
        for (int k = 0; k < all.size(); k++) if (all.get(k).contains(f)) return k;
        return -1;
    }

    Set<Fn> calls(Fn f) {
        Set<Fn> out = new LinkedHashSet<>();
        for (Tree site : sites) if (site.owner == f) out.addAll(applied(site));
        return out;
    }

    /** The least CALLS, at least the first of them taken. */
    private int way(Fn from, Fn to) {
        Set<Fn> now = calls(from);
        for (int steps = 1; steps <= fns.size(); steps++) {
            if (now.contains(to)) return steps;
            Set<Fn> behind = new LinkedHashSet<>();
            for (Fn f : now) behind.addAll(calls(f));
            now = behind;
        }
        return -1;
    }

    int far(Fn f, Fn g) {
        if (!called.contains(f) || !called.contains(g)) return -1;
        return f == g ? 0 : way(f, g);
    }

    List<Set<Fn>> rings() {
        List<Set<Fn>> out = new ArrayList<>();
        Set<Fn> done = new LinkedHashSet<>();
        for (Fn f : fns) {
            if (done.contains(f) || way(f, f) < 0) continue;
            Set<Fn> ring = new LinkedHashSet<>();
            for (Fn g : fns) if (g == f || way(f, g) > 0 && way(g, f) > 0) ring.add(g);
            done.addAll(ring);
            out.add(ring);
        }
        return out;
    }

    // ---- runs

    static final class Ended extends RuntimeException {
        private static final long serialVersionUID = 1;
        final int how;
        Ended(int how) { super(null, null, false, false); this.how = how; }
    }

    static final class Closure {
        final Fn fn;
        final Map<Var, Object> has;
        Closure(Fn fn, Map<Var, Object> has) { this.fn = fn; this.has = has; }
    }

    final class Run {
        final int how;
        int ending;
        int result;
        int steps;
        int deep;
        int entered;
        final List<Fn> inside = new ArrayList<>();

        Run(int how) {
            this.how = how;
            try {
                Object value = value(main, new HashMap<>());
                ending = value instanceof Closure ? 1 : 0;
                result = value instanceof Closure ? ((Closure) value).fn.number : (Integer) value;
            } catch (Ended e) {
                ending = e.how;
            }
        }

        int blame(int k) { return k < 0 || k >= inside.size() ? -1 : inside.get(inside.size() - 1 - k).number; }

        private Object value(Tree t, Map<Var, Object> all) {
            switch (t.kind) {
                case "number": return t.number;
                case "dead": throw new Ended(3);
                case "var": return all.get(t.var);
                case "global": return new Closure(t.fn, new HashMap<>());
                case "lambda": {
                    Map<Var, Object> has = new HashMap<>();
                    for (Var v : fieldsOf(t.fn)) has.put(v, all.get(v));
                    return new Closure(t.fn, has);
                }
                case "if": return value(t.kids.get((Integer) value(t.kids.get(0), all) != 0 ? 1 : 2), all);
                case "let": {
                    Map<Var, Object> wider = new HashMap<>(all);
                    wider.put(t.var, value(t.kids.get(0), all));
                    return value(t.kids.get(1), wider);
                }
                case "site": {
                    Closure f = (Closure) value(t.kids.get(0), all);
                    return apply(f, value(t.kids.get(1), all));
                }
                default: {
                    int left = (Integer) value(t.kids.get(0), all);
                    int right = (Integer) value(t.kids.get(1), all);
                    switch (t.kind) {
                        case "+": return left + right;
                        case "-": return left - right;
                        case "*": return left * right;
                        case "<": return left < right ? 1 : 0;
                        default:
                            if (right == 0) throw new Ended(2);
                            return left / right;
                    }
                }
            }
        }

        private Object apply(Closure f, Object argument) {
            if (how > 0) {
                Set<Fn> cases = new LinkedHashSet<>(groups(how - 1).get(groupOf(how - 1, f.fn)));
                cases.retainAll(called);
                if (!cases.contains(f.fn)) throw new Ended(5);
            }
            if (steps == 100) throw new Ended(4);
            steps++;
            inside.add(f.fn);
            deep = Math.max(deep, inside.size());
            entered |= 1 << f.fn.number;
            Map<Var, Object> all = new HashMap<>(f.has);
            all.put(f.fn.var, argument);
            Object got = value(f.fn.body, all);
            inside.remove(inside.size() - 1);
            return got;
        }
    }

    // ---- texts

    String show() { return write(false); }

    String back() { return write(true); }

    private String write(boolean cut) {
        StringBuilder out = new StringBuilder();
        for (Fn f : globals) {
            if (cut && !made.contains(f)) continue;
            out.append("fun ").append(f.name).append(' ').append(f.var.name).append('=');
            out.append(cut && !called.contains(f) ? "dead" : write(f.body, cut)).append(';');
        }
        return out + write(main, cut);
    }

    private String write(Tree t, boolean cut) {
        switch (t.kind) {
            case "number": return "" + t.number;
            case "dead": return "dead";
            case "var": return t.var.name;
            case "global": return t.fn.name;
            case "lambda":
                return "(\\" + t.fn.var.name + "." + (cut && !called.contains(t.fn) ? "dead" : write(t.fn.body, cut)) + ")";
            case "if":
                return "(if " + write(t.kids.get(0), cut) + " then " + write(t.kids.get(1), cut)
                    + " else " + write(t.kids.get(2), cut) + ")";
            case "let":
                return "(let " + t.var.name + "=" + write(t.kids.get(0), cut) + " in " + write(t.kids.get(1), cut) + ")";
            default:
                return "(" + write(t.kids.get(0), cut) + (t.kind.equals("site") ? " " : t.kind) + write(t.kids.get(1), cut) + ")";
        }
    }

    String form(int split) {
        StringBuilder out = new StringBuilder();
        List<Set<Fn>> all = groups(split);
        for (int k = 0; k < all.size(); k++) {
            List<String> cases = new ArrayList<>();
            for (Fn f : all.get(k)) {
                if (called.contains(f)) cases.add(data(f) + f.var.name + "." + formOf(f.body, split));
            }
            if (!cases.isEmpty()) out.append("a" + k + ":{" + String.join("|", cases) + "}");
        }
        return out + formOf(main, split);
    }

    private static String data(Fn f) {
        List<String> names = new ArrayList<>();
        for (Var v : fieldsOf(f)) names.add(v.name);
        return "C" + f.number + "(" + String.join(",", names) + ")";
    }

    private String formOf(Tree t, int split) {
        switch (t.kind) {
            case "number": return "" + t.number;
            case "dead": return "dead";
            case "var": return t.var.name;
            case "global": case "lambda": return data(t.fn);
            case "if":
                return "(if " + formOf(t.kids.get(0), split) + " then " + formOf(t.kids.get(1), split)
                    + " else " + formOf(t.kids.get(2), split) + ")";
            case "let":
                return "(let " + t.var.name + "=" + formOf(t.kids.get(0), split) + " in " + formOf(t.kids.get(1), split) + ")";
            case "site": {
                int least = 99;
                for (Fn f : applied(t)) least = Math.min(least, groupOf(split, f));
                return "a" + (least == 99 ? "n" : "" + least) + "(" + formOf(t.kids.get(0), split) + ","
                    + formOf(t.kids.get(1), split) + ")";
            }
            default:
                return "(" + formOf(t.kids.get(0), split) + t.kind + formOf(t.kids.get(1), split) + ")";
        }
    }
}
