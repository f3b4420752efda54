import java.nio.charset.StandardCharsets;
import java.util.NoSuchElementException;
import java.util.function.LongSupplier;

/** What the tests share: an answer against the one that is due, and an end with exit code 1 if one was wrong. */
final class Check {
    private static int wrong = 0;
    private static String held = "";

    private Check() {
    }

    /** A sentence of a promise, as the document has it: the checks behind this call hold to it. */
    static void promise(int number, String sentence) {
        held = "promise " + number + ", \"" + sentence + "\": ";
        quoted(number, sentence);
    }

    /** Likewise a sentence of "Terms". */
    static void terms(String sentence) {
        held = "Terms, \"" + sentence + "\": ";
        quoted(Doc.TERMS, sentence);
    }

    private static void quoted(int number, String sentence) {
        if (!Doc.quote(number, sentence)) {
            fail("the document does not say so");
        }
    }

    static void due(String what, long got, long want) {
        if (got != want) {
            fail(what + " answered " + got + ", due is " + want);
        }
    }

    static void due(String what, boolean got, boolean want) {
        if (got != want) {
            fail(what + " answered " + got + ", due is " + want);
        }
    }

    static void fail(String what) {
        wrong++;
        if (wrong <= 40) {
            System.out.println((held + what).replaceAll("[^ -~]", "?"));
        }
    }

    /** The whole ROW: its numbers, how many they are, and that there is none ahead of or behind them. */
    static void row(FairByEar x, String what, long... want) {
        due(what + ": count(8)", x.count(8), want.length);
        for (int i = 0; i < want.length; i++) {
            try {
                due(what + ": row(" + i + ")", x.row(i), want[i]);
            } catch (NoSuchElementException e) {
                fail(what + ": row(" + i + ") is missing, due is " + want[i]);
            }
        }
        none(what + ": row(" + want.length + ")", () -> x.row(want.length));
        none(what + ": row(-1)", () -> x.row(-1));
    }

    static void none(String what, LongSupplier call) {
        try {
            fail(what + " answered " + call.getAsLong() + ", due is NoSuchElementException");
        } catch (NoSuchElementException e) {
            return;
        }
    }

    /** THE TEXT becomes this one. */
    static void text(FairByEar x, String text) {
        x.end(0);
        byte[] signs = text.getBytes(StandardCharsets.ISO_8859_1);
        for (int i = 0; i < signs.length; i += 4) {
            int v = 0;
            for (int k = 0; k < 4; k++) {
                v = v << 8 | (i + k < signs.length ? signs[i + k] & 255 : 0);
            }
            x.sign(v);
        }
        x.end(signs.length);
    }

    static int rule(FairByEar x, String text) {
        text(x, text);
        return x.rule();
    }

    static void done() {
        System.out.println(wrong == 0 ? "all answers are as due" : wrong + " answers are not as due");
        if (wrong != 0) {
            System.exit(1);
        }
    }

    /** The end of a test of these promises. */
    static void done(int from, int to) {
        covered(from, to);
        done();
    }

    /** No word of these promises is without a test that quotes it. */
    static void covered(int from, int to) {
        for (int promise = from; promise <= to; promise++) {
            held = "promise " + promise + ": ";
            String left = Doc.unquoted(promise);
            if (!left.isEmpty()) {
                fail("no test quotes: " + left);
            }
        }
    }
}
