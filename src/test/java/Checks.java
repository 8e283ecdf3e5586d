import java.nio.charset.StandardCharsets;
import java.util.NoSuchElementException;
import java.util.function.Supplier;

/** What the tests have in common: texts in and out, answers with the exception that a call throws, a count of the wrong ones. */
final class Checks {
    private static int wrong = 0;
    private static int done = 0;

    private Checks() { }

    static void due(String what, Object want, Object got) {
        done++;
        if (!want.equals(got)) {
            wrong++;
            if (wrong <= 40) System.out.println(what + ": answered " + got + ", due is " + want);
        }
    }

    /** An answer, or the name of the exception that was thrown instead of one. */
    static Object answer(Supplier<Object> call) {
        try {
            return call.get();
        } catch (NoSuchElementException e) {
            return "NoSuchElement" + mine(e);
        } catch (IndexOutOfBoundsException e) {
            return "IndexOutOfBounds" + mine(e);
        } catch (IllegalArgumentException e) {
            return "IllegalArgument" + mine(e);
        } catch (IllegalStateException e) {
            return "IllegalState" + mine(e);
        }
    }

    /** Exceptions of the document are thrown by the class itself, as they are, not by the machine or a library. */
    private static String mine(RuntimeException e) {
        boolean own = e.getStackTrace().length > 0 && e.getStackTrace()[0].getClassName().startsWith("FlowApply");
        String name = e.getClass().getName();
        boolean exact = name.equals("java.util.NoSuchElementException") || name.equals("java.lang.IndexOutOfBoundsException")
            || name.equals("java.lang.IllegalArgumentException") || name.equals("java.lang.IllegalStateException");
        return own && exact ? "" : " by " + e;
    }

    static byte[] bytes(String text) { return text.getBytes(StandardCharsets.ISO_8859_1); }

    /** Puts a text of at most 400 bytes on an empty TAPE. */
    static void feed(Subject x, byte[] text) {
        for (int k = 0; k < text.length; k += 20) {
            x.feed(four(text, k), four(text, k + 4), four(text, k + 8), four(text, k + 12), four(text, k + 16));
        }
        x.end(text.length);
    }

    static int four(byte[] text, int from) {
        int number = 0;
        for (int k = from; k < from + 4; k++) number = number << 8 | (k < text.length ? text[k] & 255 : 0);
        return number;
    }

    static Object read(Subject x, String text) {
        feed(x, bytes(text));
        return answer(x::read);
    }

    /** A new object whose program is the text. */
    static Subject of(String text) {
        Subject x = new Subject();
        Object got = read(x, text);
        if (!(got instanceof Integer)) due("read of " + text, "a program", got);
        return x;
    }

    static String shown(Subject x) {
        StringBuilder out = new StringBuilder();
        for (int k = 0; x.octet(k) != FlowApply.NONE; k++) out.append((char) x.octet(k));
        due("count(10)", out.length(), x.count(10));
        return out.toString();
    }

    /** What is shown by a call that answers how many bytes it showed. */
    static Object told(Subject x, Supplier<Object> call) {
        Object many = answer(call);
        if (!(many instanceof Integer)) return many;
        String text = shown(x);
        due("bytes shown of " + text, text.length(), many);
        return text;
    }

    static void close(String name) {
        System.out.println(name + ": " + done + " answers, " + wrong + " wrong");
        if (wrong != 0) System.exit(1);
    }
}
