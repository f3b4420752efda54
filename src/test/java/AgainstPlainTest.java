import java.lang.reflect.InvocationTargetException;
import java.lang.reflect.Method;
import java.util.ArrayList;
import java.util.Arrays;
import java.util.List;
import java.util.Random;

/** Random runs, always the same ones: each call is made on a FairByEar and on a PlainFair, and so is its ROW asked for. */
public final class AgainstPlainTest {
    private static final int RUNS = 260;
    private static final int CALLS = 300;

    /** Of each call what its arguments are: P place, H person, G good, T test, I item, g GOODS, t TESTS, or least-most. */
    private static final String[] CALLS_TOLD = {
        "tunnel P P 1-20", "wall P 0-20", "wall P 0-2", "far P P", "person P 0-999 0-9", "person P 0-40 0-9",
        "walk H P", "of H 0-2", "good 1-9", "test 1-9", "answer G T 0-9", "answer G T 0-2", "answer G T 0-1",
        "sheet T 0-3 0-10 -5-12 -3-3", "sheet T 0-2 -1-10 -70000-70000 -300-300", "apart G G", "sure g t", "keep g",
        "ban g t", "tree g", "copper g 0-20", "asks g G", "first H H", "order", "want H G 0-99", "want H G 0-30",
        "item G H 0-99", "item G H 0-30", "thing I 0-3", "wind 1-20", "wind 1-4", "rounds 0-20", "rounds 0-200",
        "settles", "buy H I", "undo", "counted P 0-99 0-99", "counted 0-1 0-999 0-9", "been H P 0-50 0-99",
        "been H 0-1 0-500 100-999", "missing P", "missing 0-1", "suspects 0-1 0-3", "gang", "clink P 0-99 1-99",
        "clink 0-1 0-999 1-30", "hands", "loud P", "loudest", "heard P 0-200", "heard P 0-999", "crowds 1-6 0-99",
        "gas 0-3 0-99", "gas 2-3 1-1000", "gas 0-0 0-600", "gas 1-1 1-3", "lasts", "leave", "ear 0-3 0-9", "sound P P",
        "judge H 0-30 0-12", "who H 0-30 0-12", "judge H 0-9 0-5", "who H 0-9 0-5", "judge H 0-999 0-40", "lamp P",
        "count 0-9", "row 0-12", "sign any", "end 0-60"
    };

    private final Random random;
    private final FairByEar fair = new FairByEar();
    private final PlainFair plain = new PlainFair();
    private final List<String> said = new ArrayList<>();

    private AgainstPlainTest(int seed) {
        random = new Random(seed);
    }

    public static void main(String[] args) {
        int runs = args.length > 0 ? Integer.parseInt(args[0]) : RUNS;
        int from = args.length > 1 ? Integer.parseInt(args[1]) : 0;
        for (int seed = from; seed < from + runs; seed++) {
            new AgainstPlainTest(seed).run(seed);
        }
        Check.done();
    }

    /** A fair with some of all, so that trees are deep, many ask and ways are many. */
    private boolean prepare() {
        boolean same = repeat(random.nextInt(10), "tunnel P P 1-" + (1 + random.nextInt(20)));
        same = same && repeat(2 + random.nextInt(7), random.nextBoolean() ? "person P 0-99 0-9" : "person P 100-999 0-3");
        same = same && repeat(1 + random.nextInt(10), "good 1-9");
        same = same && repeat(1 + random.nextInt(6), random.nextBoolean() ? "test 1-9" : "test 1-2");
        same = same && repeat(60, "answer G T 0-" + (1 + random.nextInt(2)));
        same = same && repeat(random.nextInt(13), "item G H 0-" + (1 + random.nextInt(99)));
        same = same && repeat(40, "want H G 0-" + (1 + random.nextInt(99)));
        same = same && repeat(random.nextInt(17), "been H 0-1 0-9 5-99");
        same = same && repeat(random.nextInt(7), "clink 0-1 0-20 1-" + (1 + random.nextInt(99)));
        same = same && repeat(random.nextInt(3), "heard 0-2 0-400");
        return same && repeat(random.nextInt(10), "counted 0-2 0-60 0-20");
    }

    private boolean repeat(int times, String told) {
        boolean same = true;
        for (int i = 0; i < times && same; i++) {
            same = sameCall(told);
        }
        return same;
    }

    private void run(int seed) {
        if (seed % 4 != 0 && !prepare()) {
            return;
        }
        int style = random.nextInt(CALLS_TOLD.length);
        for (int i = 0; i < CALLS; i++) {
            boolean same = random.nextInt(12) == 0 ? sameText() : sameCall(pick(style));
            if (!same) {
                Check.fail("run " + seed + ": " + String.join(", ", said));
                return;
            }
        }
    }

    /** Each run has a stretch of calls that it likes, so that limits are met, too. */
    private String pick(int style) {
        int i = random.nextInt(3) == 0 ? style + random.nextInt(6) : random.nextInt(CALLS_TOLD.length);
        return CALLS_TOLD[i % CALLS_TOLD.length];
    }

    private boolean sameCall(String told) {
        String[] parts = told.split(" ");
        Object[] args = new Object[parts.length - 1];
        for (int i = 1; i < parts.length; i++) {
            args[i - 1] = argument(parts[i]);
        }
        return sameCall(parts[0], args);
    }

    private int argument(String kind) {
        if (random.nextInt(60) == 0) {
            int[] wild = {-1, 10, 1000, Integer.MIN_VALUE, Integer.MAX_VALUE, -2, 0, 100, 201, random.nextInt()};
            return wild[random.nextInt(wild.length)];
        }
        switch (kind) {
            case "P": return random.nextInt(random.nextInt(4) == 0 ? 10 : 5);
            case "H": return upTo(plain.count(1));
            case "G": return upTo(plain.count(2));
            case "T": return upTo(plain.count(3));
            case "I": return upTo(plain.count(4));
            case "g": return bits(plain.count(2));
            case "t": return bits(plain.count(3));
            case "any": return random.nextInt();
            default: break;
        }
        int dash = kind.indexOf('-', 1);
        int least = Integer.parseInt(kind.substring(0, dash));
        int most = Integer.parseInt(kind.substring(dash + 1));
        return least + random.nextInt(most - least + 1);
    }

    private int upTo(int size) {
        return random.nextInt(size + (random.nextInt(8) == 0 || size == 0 ? 1 : 0));
    }

    private int bits(int size) {
        int all = (1 << size) - 1;
        return random.nextInt(3) == 0 ? all : random.nextInt(all + 1) | random.nextInt(all + 1);
    }

    private boolean sameText() {
        String text = random.nextInt(3) == 0 ? scatter() : expression(random.nextInt(5), 0);
        if (random.nextInt(4) == 0 && !text.isEmpty()) {
            int at = random.nextInt(text.length());
            text = text.substring(0, at) + scatter() + text.substring(Math.min(text.length(), at + 1));
        }
        if (text.length() > 56) {
            text = text.substring(0, 30 + random.nextInt(26));
        }
        boolean same = random.nextInt(8) == 0 || sameCall("end", 0);
        for (int i = 0; i < text.length() && same; i += 4) {
            int v = 0;
            for (int k = 0; k < 4; k++) {
                v = v << 8 | (i + k < text.length() ? text.charAt(i + k) & 255 : 'l');
            }
            same = sameCall("sign", v);
        }
        same = same && sameCall("end", text.length()) && sameCall("rule") && sameCall("count", 9);
        return same && sameCall("order") && sameCall("first", upTo(plain.count(1)), upTo(plain.count(1)));
    }

    private String scatter() {
        String signs = "lunfwk0123456789()()()+-*<>=&|!!--~ z";
        StringBuilder text = new StringBuilder();
        for (int i = random.nextInt(6); i >= 0; i--) {
            text.append(signs.charAt(random.nextInt(signs.length())));
        }
        return text.toString();
    }

    private String expression(int size, int depth) {
        if (size == 0) {
            String[] things = {"l", "u", "n", "f", "w", "k", "0", "1", "12", "007", "999", "!l", "--u", "-!k"};
            return things[random.nextInt(things.length)];
        }
        int choice = random.nextInt(8);
        if (choice == 0) {
            return "!-".charAt(random.nextInt(2)) + expression(size - 1, depth);
        }
        if (choice < 3) {
            return "(" + expression(size - 1, depth + 1) + ")";
        }
        String between = "|&<>=+-*".substring(random.nextInt(8));
        return expression(size - 1, depth) + between.charAt(0) + expression(random.nextInt(size), depth);
    }

    private boolean sameCall(String name, Object... args) {
        said.add(name + Arrays.toString(args));
        String got = answer(fair, name, args);
        String due = answer(plain, name, args);
        if (!got.equals(due)) {
            Check.fail(name + Arrays.toString(args) + " answered " + got + ", due is " + due);
            return false;
        }
        return sameRow();
    }

    private boolean sameRow() {
        boolean same = fair.count(8) == plain.count(8);
        for (int i = 0; same && i < plain.count(8); i++) {
            same = fair.row(i) == plain.row(i);
        }
        if (!same) {
            Check.fail("another row behind " + said.get(said.size() - 1));
        }
        return same;
    }

    private static String answer(Object on, String name, Object... args) {
        Class<?>[] kinds = new Class<?>[args.length];
        Arrays.fill(kinds, int.class);
        try {
            Method method = on.getClass().getMethod(name, kinds);
            return method.invoke(on, args).toString();
        } catch (InvocationTargetException e) {
            return e.getCause().getClass().getName();
        } catch (ReflectiveOperationException e) {
            return e.toString();
        }
    }
}
