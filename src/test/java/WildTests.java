import java.util.List;
import java.util.Map;
import java.util.Random;
import java.util.function.Supplier;

/** Any arguments in any state: each call throws nothing but what the document names for it, by the class itself. */
public final class WildTests {
    private static final int[] EDGES = {Integer.MIN_VALUE, Integer.MAX_VALUE, -2, -1, 0, 1, 2, 3, 4, 5, 6, 12, 13, 23, 24, 25, 31, 32, 33, 64, 99, 100, 400};
    private static final String[] TEXTS = {"", "1", "\\x.x", "fun f x=f x;f 1", "let a=\\x.\\y.x in (if 1 then a else \\z.a 1) 2 dead",
        "fun c n=\\f.if n<1 then f 0 else c (n-1) (\\k.f (k+n));c 3 (\\r.r/0)", "1+", "1 1", "\\x.x x"};
    private static final Map<String, List<String>> THROWS = Map.ofEntries(
        Map.entry("read", List.of("IllegalArgument", "IllegalState")), Map.entry("function", List.of("IndexOutOfBounds", "NoSuchElement")),
        Map.entry("field", List.of("IndexOutOfBounds", "NoSuchElement")), Map.entry("type", List.of("IndexOutOfBounds")),
        Map.entry("alike", List.of("IndexOutOfBounds")), Map.entry("site", List.of("IndexOutOfBounds", "NoSuchElement")),
        Map.entry("split", List.of("NoSuchElement", "IllegalArgument")), Map.entry("group", List.of("IllegalArgument", "NoSuchElement")),
        Map.entry("run", List.of("IllegalArgument", "NoSuchElement")), Map.entry("blame", List.of("IllegalArgument")),
        Map.entry("form", List.of("IllegalArgument")), Map.entry("ring", List.of("IndexOutOfBounds")),
        Map.entry("far", List.of("IndexOutOfBounds")));

    public static void main(String[] args) {
        for (int k = 0; k < 300; k++) {
            Random chance = new Random(k);
            Subject x = new Subject(true);
            while (x.left() > 8) call(x, chance);
        }
        Checks.close("WildTests");
    }

    private static int any(Random chance) {
        return chance.nextInt(20) == 0 ? chance.nextInt() : EDGES[chance.nextInt(EDGES.length)];
    }

    private static void call(Subject x, Random chance) {
        int a = any(chance);
        int b = any(chance);
        switch (chance.nextInt(24)) {
            case 0: allow("feed", () -> x.feed(a, b, a ^ b, chance.nextInt(), 0x20202020)); break;
            case 1: allow("end", () -> x.end(a)); break;
            case 2: allow("read", x::read); break;
            case 3: allow("fault", x::fault); break;
            case 4: allow("function", () -> x.function(a, b)); break;
            case 5: allow("field", () -> x.field(a, b)); break;
            case 6: allow("type", () -> x.type(a)); break;
            case 7: allow("typeOfMain", x::typeOfMain); break;
            case 8: allow("alike", () -> x.alike(a, b)); break;
            case 9: allow("site", () -> x.site(a, b)); break;
            case 10: allow("split", () -> x.split(a, b)); break;
            case 11: allow("group", () -> x.group(a, b, chance.nextBoolean())); break;
            case 12: allow("run", () -> x.run(a, b)); break;
            case 13: allow("blame", () -> x.blame(a, b)); break;
            case 14: allow("form", () -> x.form(a)); break;
            case 15: allow("back", x::back); break;
            case 16: allow("show", x::show); break;
            case 17: allow("take", x::take); break;
            case 18: allow("ring", () -> x.ring(a)); break;
            case 19: allow("far", () -> x.far(a, b)); break;
            case 20: allow("octet", () -> x.octet(a)); break;
            case 21: allow("count", () -> x.count(a)); break;
            default:
                x.end(0);
                Checks.feed(x, Checks.bytes(TEXTS[chance.nextInt(TEXTS.length)]));
                allow("read", x::read);
                break;
        }
    }

    private static void allow(String name, Supplier<Object> call) {
        Object got = Checks.answer(call);
        boolean thrown = got instanceof String;
        Checks.due(name + " answers or throws its own: " + (thrown ? got : ""), true, !thrown || THROWS.getOrDefault(name, List.of()).contains(got));
    }
}
