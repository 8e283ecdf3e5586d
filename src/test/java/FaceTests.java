import java.io.IOException;
import java.lang.reflect.Constructor;
import java.lang.reflect.Field;
import java.lang.reflect.Method;
import java.lang.reflect.Modifier;
import java.nio.file.Files;
import java.nio.file.Path;
import java.util.Arrays;
import java.util.Set;
import java.util.TreeSet;

/** The face is that of the document, the source keeps to what LANGUAGE.md lists, and calls make nothing but exceptions. */
public final class FaceTests {
    private static final String[] FACE = {
        "int feed(int, int, int, int, int)", "boolean end(int)",
        "int read() IllegalArgumentException IllegalStateException", "int fault()",
        "int function(int, int) IndexOutOfBoundsException NoSuchElementException",
        "int field(int, int) IndexOutOfBoundsException NoSuchElementException",
        "int type(int) IndexOutOfBoundsException", "int typeOfMain()",
        "boolean alike(int, int) IndexOutOfBoundsException",
        "int site(int, int) IndexOutOfBoundsException NoSuchElementException",
        "int split(int, int) NoSuchElementException IllegalArgumentException",
        "int group(int, int, boolean) IllegalArgumentException NoSuchElementException",
        "int run(int, int) IllegalArgumentException NoSuchElementException",
        "int blame(int, int) IllegalArgumentException", "int form(int) IllegalArgumentException",
        "int back()", "int show()", "int take()", "int ring(int) IndexOutOfBoundsException",
        "int far(int, int) IndexOutOfBoundsException", "int octet(int)", "int count(int)"};

    public static void main(String[] args) throws Exception {
        face();
        inside();
        source(Path.of(args.length > 0 ? args[0] : "src/main/java/FlowApply.java"));
        room();
        Checks.close("FaceTests");
    }

    private static void face() throws Exception {
        Set<String> found = new TreeSet<>();
        Set<String> names = new TreeSet<>();
        for (Method m : FlowApply.class.getDeclaredMethods()) {
            if (m.isSynthetic() || !Modifier.isPublic(m.getModifiers())) continue;
            StringBuilder line = new StringBuilder(m.getReturnType().getSimpleName()).append(' ').append(m.getName()).append('(');
            for (Class<?> c : m.getParameterTypes()) line.append(line.charAt(line.length() - 1) == '(' ? "" : ", ").append(c.getSimpleName());
            line.append(')');
            for (Class<?> c : m.getExceptionTypes()) line.append(' ').append(c.getSimpleName());
            found.add(line.toString());
            names.add(m.getName());
        }
        Checks.due("public methods", new TreeSet<>(Arrays.asList(FACE)), found);
        for (Method m : FlowApply.class.getDeclaredMethods()) {
            if (m.isSynthetic() || Modifier.isPublic(m.getModifiers())) continue;
            Checks.due("private: " + m, true, Modifier.isPrivate(m.getModifiers()));
            Checks.due("not named as a public one: " + m, false, names.contains(m.getName()));
        }
        for (Field f : FlowApply.class.getDeclaredFields()) {
            boolean none = f.getName().equals("NONE");
            Checks.due("visibility of " + f, none ? Modifier.PUBLIC : Modifier.PRIVATE, f.getModifiers() & (Modifier.PUBLIC | Modifier.PRIVATE | Modifier.PROTECTED));
            if (Modifier.isStatic(f.getModifiers())) Checks.due("final: " + f, true, Modifier.isFinal(f.getModifiers()));
        }
        Constructor<?>[] made = FlowApply.class.getDeclaredConstructors();
        Checks.due("constructors", 1, made.length);
        Checks.due("constructor", true, Modifier.isPublic(made[0].getModifiers()) && made[0].getParameterCount() == 0);
        Checks.due("final class", true, Modifier.isFinal(FlowApply.class.getModifiers()));
    }

    private static void inside() {
        Class<?>[] all = FlowApply.class.getDeclaredClasses();
        Checks.due("at most twelve classes", true, all.length + 1 <= 12);
        for (Class<?> c : all) {
            Checks.due("not public: " + c, false, Modifier.isPublic(c.getModifiers()) || Modifier.isProtected(c.getModifiers()));
            int fields = 0;
            for (Field f : c.getDeclaredFields()) {
                if (!Modifier.isStatic(f.getModifiers())) fields++;
                else Checks.due("final: " + f, true, Modifier.isFinal(f.getModifiers()));
            }
            Checks.due("some twenty fields: " + c, true, fields <= 20);
            for (Method m : c.getDeclaredMethods()) Checks.due("at most seven parameters: " + m, true, m.getParameterCount() <= 7);
        }
    }

    /** What LANGUAGE.md rules out, as far as a search for words can tell. */
    private static void source(Path path) throws IOException {
        String text = Files.readString(path);
        String code = text.replaceAll("(?s)/\\*.*?\\*/", "").replaceAll("//[^\n]*", "").replaceAll("\"[^\"\n]*\"", "\"\"");
        for (String out : new String[] {"::", "\\bfinally\\b", "\\bassert\\b", "\\bsynchronized\\b", "(?m)^package ", "\\bThread\\b",
            "\\bhashCode\\b", "Exact\\(", "getMessage", "printStackTrace", "\\bSystem\\.(?!arraycopy)", "Math\\.random", "\\bprotected\\b",
            "\\bThrowable\\b", "\\bException\\b", "NullPointerException", "ArrayIndexOutOfBounds", "ClassCastException",
            "NegativeArraySize", "ArrayStoreException", "\\) ->", "\\bstatic \\{"}) {
            Checks.due("'" + out + "' in the source", false, java.util.regex.Pattern.compile(out).matcher(code).find());
        }
        Set<String> imports = Set.of("java.util.NoSuchElementException", "java.util.ArrayList", "java.util.List", "java.util.Iterator",
            "java.util.Arrays");
        code.lines().filter(l -> l.startsWith("import ")).map(l -> l.substring(7).replace(";", "").trim())
            .forEach(l -> Checks.due("import " + l, true, imports.contains(l)));
        Checks.due("public classes", 1L, code.lines().filter(l -> l.contains("public ") && l.contains("class ")).count());
        Checks.due("signs above 127", 0L, text.chars().filter(c -> c > 127).count());
    }

    /** All calls of an object keep within the room that a run has: some 7.3 million fields and elements. */
    private static void room() {
        com.sun.management.ThreadMXBean threads =
            (com.sun.management.ThreadMXBean) java.lang.management.ManagementFactory.getThreadMXBean();
        byte[] text = Checks.bytes("fun f x=if x<90 then f (x+1) else \\y.\\z.x+y+z;let long=1 in f 1 2 long+(\\abcd.\\bcde.long+abcd) 1 2");
        for (int round = 0; round < 2; round++) {
            long before = threads.getThreadAllocatedBytes(Thread.currentThread().getId());
            FlowApply x = new FlowApply();
            // each time round sixteen calls
            for (int k = 0; k < 32; k++) {
                for (int from = 0; from < 120; from += 20) {
                    x.feed(Checks.four(text, from), Checks.four(text, from + 4), Checks.four(text, from + 8),
                        Checks.four(text, from + 12), Checks.four(text, from + 16));
                }
                x.end(text.length);
                x.read();
                for (int split = 0; split < 3; split++) x.form(split);
                x.run(k % 4, 0);
                x.blame(k % 4, 0);
                x.typeOfMain();
                x.back();
                x.take();
            }
            long bytes = threads.getThreadAllocatedBytes(Thread.currentThread().getId()) - before;
            if (round == 1) Checks.due("bytes made: " + bytes, true, bytes < 4 * 7300000);
        }
    }
}
