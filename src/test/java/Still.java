import java.lang.reflect.InvocationTargetException;
import java.lang.reflect.Method;
import java.util.Arrays;
import java.util.List;
import java.util.function.Supplier;

/** Calls that must change nothing: behind them a fair answers as one does on which they were not made. */
final class Still {
    private Still() {
    }

    /** A refused call: NONE, and nothing has changed. */
    static void refused(Supplier<FairByEar> fair, String call, Integer... args) {
        still(fair, "-1", call, args);
    }

    /** NoSuchElementException, and nothing has changed. */
    static void none(Supplier<FairByEar> fair, String call, Integer... args) {
        still(fair, "NoSuchElementException", call, args);
    }

    /** A call that answers so, and nothing has changed. */
    static void still(Supplier<FairByEar> fair, String due, String call, Integer... args) {
        String got = answer(fair.get(), call, args);
        if (!got.equals(due)) {
            Check.fail(call + Arrays.toString(args) + " answered " + got + ", due is " + due);
        }
        List<String> without = Fairs.asked(fair);
        List<String> with = Fairs.asked(() -> {
            FairByEar x = fair.get();
            answer(x, call, args);
            return x;
        });
        for (int i = 0; i < Math.min(without.size(), with.size()); i++) {
            if (!without.get(i).equals(with.get(i))) {
                String made = call + Arrays.toString(args);
                Check.fail("behind " + made + ": " + with.get(i) + ", without it: " + without.get(i));
                return;
            }
        }
        Check.due("as many answers behind " + call, with.size(), without.size());
    }

    static int[] ends(int least, int most) {
        return new int[] {least, most};
    }

    /**
     * A call with such arguments is taken, and so it is if one of them is the least or the most that it may be; beyond
     * that it is refused and changes nothing.
     */
    static void refusedBeyond(String call, int[] fine, int[]... ends) {
        beyond("-1", call, fine, ends);
    }

    /** Likewise a call that throws beyond the ends. */
    static void noneBeyond(String call, int[] fine, int[]... ends) {
        beyond("NoSuchElementException", call, fine, ends);
    }

    private static void beyond(String due, String call, int[] fine, int[]... ends) {
        Check.due(call + ": as many arguments as ends", ends.length, fine.length);
        for (int i = 0; i < fine.length; i++) {
            int least = ends[i][0];
            int most = ends[i][1];
            // An int's own ends, and 32 more or less, show whether an argument goes round or is used as a shift.
            int[] values = {Integer.MIN_VALUE, least - 32, least - 1, least, most, most + 1, most + 32,
                Integer.MAX_VALUE};
            for (int v : values) {
                Integer[] args = Arrays.stream(fine).boxed().toArray(Integer[]::new);
                args[i] = v;
                if (v < least || v > most) {
                    still(Fairs::some, due, call, args);
                } else if (answer(Fairs.some(), call, args).equals(due)) {
                    Check.fail(call + Arrays.toString(args) + " is refused");
                }
            }
        }
    }

    private static String answer(FairByEar x, String call, Integer... args) {
        Class<?>[] kinds = new Class<?>[args.length];
        Arrays.fill(kinds, int.class);
        try {
            Method method = FairByEar.class.getMethod(call, kinds);
            return method.invoke(x, (Object[]) args).toString();
        } catch (InvocationTargetException e) {
            return e.getCause().getClass().getSimpleName();
        } catch (ReflectiveOperationException e) {
            return e.toString();
        }
    }
}
