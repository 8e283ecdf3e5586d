import java.util.ArrayList;
import java.util.List;
import java.util.Random;

/** Many programs and wrong texts, made by chance from fixed seeds: the program's answers against the model's. */
public final class SweepTests {
    private final Random chance;
    private final StringBuilder out = new StringBuilder();

    private SweepTests(long seed) { chance = new Random(seed); }

    public static void main(String[] args) {
        int many = args.length > 0 ? Integer.parseInt(args[0]) : 3000;
        long seed = args.length > 1 ? Long.parseLong(args[1]) : 1;
        int[] kinds = new int[4];
        Subject reused = new Subject();
        for (int k = 0; k < many; k++) {
            SweepTests sweep = new SweepTests(seed * 1000003 + k);
            byte[] text = sweep.text(k);
            kinds[hold(k % 3 == 0 ? reused : new Subject(), text)]++;
        }
        System.out.println("sweep: wrong " + kinds[0] + ", untyped " + kinds[1] + ", runs " + kinds[2] + ", too long " + kinds[3]);
        System.out.println("of the runs: " + met);
        Checks.close("SweepTests");
    }

    private byte[] text(int k) {
        String text = k % 5 == 4 ? loose() : typed();
        byte[] bytes = Checks.bytes(text);
        if (k % 4 == 3) bytes = spoil(bytes);
        return bytes;
    }

    // ---- one text

    private static int hold(Subject x, byte[] text) {
        String name = new String(text, java.nio.charset.StandardCharsets.ISO_8859_1);
        if (text.length > 400) return 3;
        Object before = Checks.told(x, x::show);
        Checks.feed(x, text);
        Object got = Checks.answer(x::read);
        try {
            Model model = new Model(text, true);
            Checks.due("fault of " + name, -1, x.fault());
            model.infer();
            model.flow();
            Checks.due("read of " + name, model.fns.size(), got);
            Checks.due("shown behind read", 0, x.count(10));
            compare(name, x, model);
            meet(model);
            Checks.due("take of " + name, Integer.bitCount(Model.bits(model.made)), x.take());
            Checks.due("shown behind take", 0, x.count(10));
            Model behind = new Model(Checks.bytes(model.back()), false);
            behind.infer();
            behind.flow();
            compare("BACK of " + name, x, behind);
            return 2;
        } catch (Model.Fault e) {
            Checks.due("read of " + name, "IllegalArgument", got);
            Checks.due("fault of " + name, e.at, x.fault());
            Checks.due("shown behind a wrong read", before, Checks.shown(x));
            Checks.due("program behind a wrong read", before, Checks.told(x, x::show));
            return 0;
        } catch (Model.Untyped e) {
            Checks.due("read of " + name, "IllegalState", got);
            Checks.due("shown behind an untyped read", before, Checks.shown(x));
            Checks.due("program behind an untyped read", before, Checks.told(x, x::show));
            return 1;
        }
    }

    private static void compare(String name, Subject x, Model m) {
        compareCounts(name, x, m);
        for (int f = 0; f < m.fns.size(); f++) compareFunction(name + ", function " + f, x, m, m.fns.get(f));
        for (int s = 0; s < m.sites.size(); s++) compareSite(name + ", site " + s, x, m, s);
        int beyond = m.fns.size();
        Checks.due(name + ", function beyond", "IndexOutOfBounds", Checks.answer(() -> x.function(beyond, 0)));
        Checks.due(name + ", site beyond", "IndexOutOfBounds", Checks.answer(() -> x.site(m.sites.size(), 0)));
        for (int split = 0; split < 3; split++) compareSplit(name + ", split " + split, x, m, split);
        for (int how = 0; how < 4; how++) compareRun(name + ", how " + how, x, m, how);
        List<java.util.Set<Model.Fn>> rings = m.rings();
        Checks.due(name + " rings", rings.size(), x.count(9));
        for (int k = 0; k < rings.size(); k++) Checks.due(name + " ring " + k, Model.bits(rings.get(k)), x.ring(k));
        Checks.due(name + " ring beyond", "IndexOutOfBounds", Checks.answer(() -> x.ring(rings.size())));
        Checks.due(name + " show", m.show(), Checks.told(x, x::show));
        Checks.due(name + " back", m.back(), Checks.told(x, x::back));
        Checks.due(name + " main's type", Model.told(m.mainType), Checks.told(x, x::typeOfMain));
    }

    private static void compareCounts(String name, Subject x, Model m) {
        int fields = 0;
        for (Model.Fn f : m.made) fields += Model.fieldsOf(f).size();
        int looked = 0;
        int known = 0;
        for (Model.Tree site : m.sites) {
            if (m.looked(site.owner)) looked++;
            if (m.applied(site).size() == 1) known++;
        }
        int[] want = {m.globals.size(), m.lambdas.size(), m.sites.size(), m.things, Model.bits(m.comes.get(m.main)),
            Model.bits(m.made), Model.bits(m.called), looked, known, m.rings().size(), x.count(10), fields, thingsOf(m.back()), -1};
        for (int k = 0; k < want.length; k++) Checks.due(name + " count " + k, want[k], x.count(k));
    }

    /** How often the sweep met what is worth meeting: a sweep that never met a ring would show nothing of rings. */
    private static final java.util.Map<String, Integer> met = new java.util.TreeMap<>();

    private static void meet(Model m) {
        met.merge("ending " + m.new Run(0).ending, 1, Integer::sum);
        if (!m.rings().isEmpty()) met.merge("rings", 1, Integer::sum);
        if (m.rings().stream().anyMatch(r -> r.size() > 1)) met.merge("rings of many", 1, Integer::sum);
        if (m.made.stream().anyMatch(f -> Model.fieldsOf(f).size() > 0)) met.merge("fields", 1, Integer::sum);
        if (m.made.stream().anyMatch(f -> Model.fieldsOf(f).size() > 1)) met.merge("fields of many", 1, Integer::sum);
        if (m.sites.stream().anyMatch(t -> m.applied(t).size() > 1)) met.merge("sites of many", 1, Integer::sum);
        if (m.groups(1).size() != m.groups(2).size()) met.merge("splits that differ", 1, Integer::sum);
        if (m.groups(2).stream().anyMatch(g -> g.size() > 2)) met.merge("groups of three", 1, Integer::sum);
        if (m.made.size() > m.called.size()) met.merge("never called", 1, Integer::sum);
        if (m.fns.size() > m.made.size()) met.merge("never made", 1, Integer::sum);
        if (m.new Run(0).steps > 3) met.merge("four steps", 1, Integer::sum);
    }

    private static int thingsOf(String text) {
        try {
            return new Model(Checks.bytes(text), false).things;
        } catch (Model.Fault e) {
            return -9;
        }
    }

    private static void compareFunction(String name, Subject x, Model m, Model.Fn f) {
        List<java.util.Set<Model.Fn>> rings = m.rings();
        int ring = -1;
        for (int k = 0; k < rings.size(); k++) if (rings.get(k).contains(f)) ring = k;
        int sites = 0;
        for (Model.Tree site : m.sites) if (m.applied(site).contains(f)) sites++;
        List<Model.Var> fields = Model.fieldsOf(f);
        boolean made = m.made.contains(f);
        boolean called = m.called.contains(f);
        int[] want = {f.home == null ? -1 : f.home.number, f.global ? 1 : 0, made ? 1 : 0, called ? 1 : 0,
            called ? Model.bits(f.var.has) : 0, called ? Model.bits(m.comes.get(f.body)) : 0, fields.size(),
            m.groupOf(2, f), m.groupOf(1, f), Model.bits(called ? m.calls(f) : List.of()), ring,
            m.comes.get(m.main).contains(f) ? 1 : 0, sites};
        for (int k = 0; k < want.length; k++) Checks.due(name + " what " + k, want[k], x.function(f.number, k));
        for (int k = 0; k < fields.size(); k++) {
            int at = k;
            Checks.due(name + " field " + k, fields.get(k).name, Checks.told(x, () -> x.field(f.number, at)));
        }
        Checks.due(name + " field beyond", "NoSuchElement", Checks.answer(() -> x.field(f.number, fields.size())));
        Checks.due(name + " type", Model.told(f.type), Checks.told(x, () -> x.type(f.number)));
        for (Model.Fn g : m.fns) {
            Checks.due(name + " alike " + g.number, Model.one(f.type, g.type), x.alike(f.number, g.number));
            Checks.due(name + " far " + g.number, m.far(f, g), x.far(f.number, g.number));
        }
    }

    private static void compareSite(String name, Subject x, Model m, int s) {
        Model.Tree site = m.sites.get(s);
        boolean looked = m.looked(site.owner);
        int group = -1;
        for (Model.Fn f : m.applied(site)) group = m.groupOf(2, f);
        int[] want = {site.owner == null ? -1 : site.owner.number, Model.bits(m.applied(site)),
            looked ? Model.bits(m.comes.get(site.kids.get(1))) : 0, looked ? Model.bits(m.comes.get(site)) : 0, group,
            m.applied(site).size() == 1 ? 1 : 0, looked ? 1 : 0};
        for (int k = 0; k < want.length; k++) Checks.due(name + " what " + k, want[k], x.site(s, k));
    }

    private static void compareSplit(String name, Subject x, Model m, int split) {
        List<java.util.Set<Model.Fn>> groups = m.groups(split);
        int withCases = 0;
        int most = 0;
        int all = 0;
        for (int k = 0; k < groups.size(); k++) {
            int members = Model.bits(groups.get(k));
            int cases = members & Model.bits(m.called);
            withCases += cases == 0 ? 0 : 1;
            most = Math.max(most, Integer.bitCount(cases));
            all += Integer.bitCount(cases);
            Checks.due(name + " group " + k, members, x.group(split, k, false));
            Checks.due(name + " cases " + k, cases, x.group(split, k, true));
        }
        int[] want = {groups.size(), withCases, all, most, m.made.size() - all};
        for (int k = 0; k < want.length; k++) Checks.due(name + " what " + k, want[k], x.split(split, k));
        Checks.due(name + " group beyond", "NoSuchElement", Checks.answer(() -> x.group(split, groups.size(), false)));
        Checks.due(name + " form", m.form(split), Checks.told(x, () -> x.form(split)));
    }

    private static void compareRun(String name, Subject x, Model m, int how) {
        Model.Run run = m.new Run(how);
        int[] want = {run.ending, run.result, run.steps, run.deep, run.entered};
        for (int k = 0; k < want.length; k++) Checks.due(name + " run " + k, want[k], x.run(how, k));
        for (int k = -1; k <= run.inside.size(); k++) Checks.due(name + " blame " + k, run.blame(k), x.blame(how, k));
    }

    // ---- programs that mostly type

    private static final String[] NAMES = {"x", "y", "f", "go", "abc", "long", "t", "i"};
    private static final String[] TYPES = {"i", "(i>i)", "(i>(i>i))", "((i>i)>i)", "((i>i)>(i>i))", "(i>((i>i)>i))"};

    private final List<String[]> scope = new ArrayList<>();
    private final List<String[]> globals = new ArrayList<>();
    private int room;

    private String typed() {
        int many = chance.nextInt(chance.nextInt(4) == 0 ? 7 : 3);
        room = 10 + chance.nextInt(85);
        for (int k = 0; k < many; k++) {
            String type = TYPES[1 + chance.nextInt(TYPES.length - 1)];
            String name = NAMES[(k * 3 + chance.nextInt(2)) % NAMES.length];
            if (find(globals, name) != null) name = "g" + (char) ('a' + k);
            String var = pick(NAMES);
            globals.add(new String[] {name, type});
            word("fun"); word(name); word(var); sign("=");
            scope.clear();
            scope.add(new String[] {var, taken(type)});
            // Until it is 0 or less, by way of itself: a RING.
            if (type.equals("(i>i)") && chance.nextInt(3) == 0) {
                word("if"); word("0"); sign("<"); word(var); word("then");
                sign("("); grow("i", 1); sign(")"); sign(pick(new String[] {"+", "-", "*"}));
                again(var.equals(name) ? "dead" : name, var);
                word("else");
            }
            grow(given(type), 1 + chance.nextInt(4));
            sign(";");
        }
        scope.clear();
        String type = chance.nextInt(4) == 0 ? pick(TYPES) : "i";
        grow(type, 3 + chance.nextInt(6));
        return out.toString();
    }

    /** A call of the function itself: as it is, or by way of a LAMBDA, which lies in the RING then. */
    private void again(String name, String var) {
        boolean byLambda = chance.nextBoolean() && !name.equals("m");
        if (byLambda) {
            sign("("); sign("\\"); word("m"); sign(".");
        }
        word(name); sign("("); word(byLambda ? "m" : var); sign("-"); word("" + (1 + chance.nextInt(2))); sign(")");
        if (byLambda) {
            sign(")"); word(var);
        }
    }

    private static String[] find(List<String[]> all, String name) {
        for (int k = all.size() - 1; k >= 0; k--) if (all.get(k)[0].equals(name)) return all.get(k);
        return null;
    }

    private static int cut(String type) {
        int open = 0;
        for (int k = 1; k < type.length(); k++) {
            if (type.charAt(k) == '(') open++;
            if (type.charAt(k) == ')') open--;
            if (type.charAt(k) == '>' && open == 0) return k;
        }
        return -1;
    }

    private static String taken(String type) { return type.substring(1, cut(type)); }

    private static String given(String type) { return type.substring(cut(type) + 1, type.length() - 1); }

    private String pick(String[] from) { return from[chance.nextInt(from.length)]; }

    private void word(String word) {
        int last = out.length() - 1;
        if (last >= 0 && Character.isLetterOrDigit(out.charAt(last))
            && (Character.isLetter(out.charAt(last)) == Character.isLetter(word.charAt(0)) || chance.nextInt(3) > 0)) out.append(' ');
        if (chance.nextInt(30) == 0) out.append(" \t\n".charAt(chance.nextInt(3)));
        out.append(word);
    }

    private void sign(String sign) {
        if (chance.nextInt(40) == 0) out.append(" \n\t".charAt(chance.nextInt(3)));
        out.append(sign);
    }

    /** Writes an EXPR of a TYPE; all that is not an ATOM stands in ( ). */
    private void grow(String type, int depth) {
        room--;
        boolean small = depth <= 0 || room <= 0;
        boolean named = !type.equals("i") && chance.nextInt(2) == 0;
        if ((small || named || chance.nextInt(8) == 0) && leaf(type)) return;
        boolean open = depth < 3 || chance.nextInt(3) > 0;
        if (open) sign("(");
        inner(type, depth - 1, small);
        if (open) sign(")");
    }

    private boolean leaf(String type) {
        List<String> found = new ArrayList<>();
        for (String[] entry : scope) if (entry[1].equals(type) && find(scope, entry[0]) == entry) found.add(entry[0]);
        for (String[] entry : globals) if (entry[1].equals(type) && find(scope, entry[0]) == null) found.add(entry[0]);
        if (chance.nextInt(40) == 0) { word("dead"); return true; }
        if (type.equals("i") && !found.isEmpty() && chance.nextInt(3) == 0) {
            sign("("); word(found.get(chance.nextInt(found.size())));
            sign(pick(new String[] {"+", "-", "*", "<"}));
            word(found.get(chance.nextInt(found.size()))); sign(")");
            return true;
        }
        if (type.equals("i") && (found.isEmpty() || chance.nextInt(5) == 0)) {
            word(chance.nextInt(6) == 0 ? "00" + chance.nextInt(100) : "" + chance.nextInt(chance.nextInt(5) == 0 ? 10000 : 4));
            return true;
        }
        if (found.isEmpty()) return false;
        word(found.get(chance.nextInt(found.size())));
        return true;
    }

    private void inner(String type, int depth, boolean small) {
        boolean isInt = type.equals("i");
        int what = small ? (isInt ? 5 : 3) : chance.nextInt(12);
        if (what == 0) {
            word("if"); grow("i", depth); word("then"); grow(type, depth); word("else"); grow(type, depth);
        } else if (what <= 2) {
            String name = pick(NAMES);
            String other = pick(TYPES);
            word("let"); word(name); sign("="); grow(other, depth); word("in");
            within(name, other, type, depth);
        } else if (what <= 7 && !isInt) {
            String name = pick(NAMES);
            sign("\\"); word(name); sign(".");
            within(name, taken(type), given(type), depth);
        } else if (what <= 6) {
            grow("i", depth); sign(pick(new String[] {"+", "-", "*", "/", "<"})); grow("i", depth);
        } else {
            String other = chance.nextBoolean() ? pick(TYPES) : "i";
            applied("(" + other + ">" + type + ")", depth); grow(other, depth);
        }
    }

    /** What is applied: often one of two, so that many come together at a SITE. */
    private void applied(String type, int depth) {
        if (chance.nextInt(3) > 0 || room <= 0) {
            grow(type, depth);
            return;
        }
        sign("("); word("if"); grow("i", Math.min(depth, 1)); word("then"); grow(type, depth - 1); word("else"); grow(type, depth - 1); sign(")");
    }

    private void within(String name, String held, String type, int depth) {
        scope.add(new String[] {name, held});
        grow(type, depth);
        scope.remove(scope.size() - 1);
    }

    // ---- texts without a thought of types, of limits, of grammar

    private String loose() {
        int many = chance.nextInt(chance.nextInt(3) == 0 ? 9 : 2);
        room = 5 + chance.nextInt(chance.nextInt(3) == 0 ? 140 : 30);
        for (int k = 0; k < many; k++) {
            String name = pick(NAMES) + (chance.nextInt(3) > 0 ? "" + (char) ('a' + k) : "");
            globals.add(new String[] {name, "i"});
            word("fun"); word(name); word(pick(NAMES)); sign("="); any(3); sign(";");
        }
        any(chance.nextInt(30));
        return out.toString();
    }

    private void any(int depth) {
        room--;
        int what = depth <= 0 || room <= 0 ? 8 + chance.nextInt(3) : chance.nextInt(11);
        String name = pick(NAMES);
        switch (what) {
            case 0: word("if"); any(depth - 1); word("then"); any(depth - 1); word("else"); any(depth - 1); break;
            case 1: word("let"); word(name); sign("="); any(depth - 1); word("in"); held(name, depth); break;
            case 2: case 3: sign("("); sign("\\"); word(name); sign("."); held(name, depth); sign(")"); break;
            case 4: sign("\\"); word(name); sign("."); held(name, depth); break;
            case 5: case 6: sign("("); any(depth - 1); any(depth - 1); sign(")"); break;
            case 7: any(depth - 1); sign(pick(new String[] {"+", "-", "*", "/", "<"})); any(depth - 1); break;
            case 8: word("" + chance.nextInt(30)); break;
            case 9: word(scope.isEmpty() ? "dead" : scope.get(chance.nextInt(scope.size()))[0]); break;
            default: word(globals.isEmpty() ? "7" : globals.get(chance.nextInt(globals.size()))[0]); break;
        }
    }

    private void held(String name, int depth) {
        scope.add(new String[] {name, "i"});
        any(depth - 1);
        scope.remove(scope.size() - 1);
    }

    private byte[] spoil(byte[] text) {
        int at = chance.nextInt(text.length + 1);
        String signs = "\\.=;()+-*/< x1fA\r~";
        byte one = (byte) (chance.nextInt(20) == 0 ? chance.nextInt(256) : signs.charAt(chance.nextInt(signs.length())));
        List<Byte> all = new ArrayList<>();
        for (byte b : text) all.add(b);
        int how = chance.nextInt(4);
        if (how == 0) all = all.subList(0, at);
        else if (how == 1 && at < text.length) all.remove(at);
        else if (how == 2 && at < text.length) all.set(at, one);
        else all.add(at, one);
        byte[] made = new byte[all.size()];
        for (int k = 0; k < made.length; k++) made[k] = all.get(k);
        return made;
    }
}
