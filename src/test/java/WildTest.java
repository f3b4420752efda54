import java.lang.reflect.InvocationTargetException;
import java.lang.reflect.Method;
import java.lang.reflect.Modifier;
import java.util.ArrayList;
import java.util.Comparator;
import java.util.List;
import java.util.NoSuchElementException;
import java.util.Random;
import java.util.Set;

/** Any arguments in any state: nothing is thrown but NoSuchElementException, and that by three calls alone. */
public final class WildTest {
    private static final Set<String> MAY_THROW = Set.of("of", "thing", "row");
    private static final int[] EDGES = {
        Integer.MIN_VALUE, Integer.MIN_VALUE + 1, -1000, -999, -33, -32, -31, -2, -1, 0, 1, 2, 3, 4, 5, 6, 7, 8, 9, 10, 11,
        12, 13, 15, 16, 17, 20, 21, 31, 32, 33, 39, 40, 41, 60, 61, 63, 64, 99, 100, 101, 200, 201, 255, 512, 999, 1000, 1023,
        1024, 9999, 10000, 65535, 65536, Integer.MAX_VALUE - 1, Integer.MAX_VALUE
    };

    public static void main(String[] args) throws IllegalAccessException {
        List<Method> face = new ArrayList<>();
        for (Method method : FairByEar.class.getDeclaredMethods()) {
            if (Modifier.isPublic(method.getModifiers())) {
                face.add(method);
            }
        }
        // The machine gives them in no order of its own; runs are to be the same ones each time.
        face.sort(Comparator.comparing(Method::getName));
        Check.due("calls", face.size(), 51);
        for (int seed = 0; seed < 400; seed++) {
            run(new Random(seed), face);
        }
        Check.done();
    }

    private static void run(Random random, List<Method> face) throws IllegalAccessException {
        FairByEar x = new FairByEar();
        int wild = 1 + random.nextInt(40);
        for (int call = 0; call < 512; call++) {
            Method method = face.get(random.nextInt(face.size()));
            Object[] args = new Object[method.getParameterCount()];
            for (int i = 0; i < args.length; i++) {
                boolean tame = random.nextInt(40) >= wild;
                args[i] = tame ? random.nextInt(10) : EDGES[random.nextInt(EDGES.length)];
            }
            make(x, method, args);
        }
    }

    private static void make(FairByEar x, Method method, Object[] args) throws IllegalAccessException {
        try {
            method.invoke(x, args);
        } catch (InvocationTargetException e) {
            boolean due = e.getCause() instanceof NoSuchElementException && MAY_THROW.contains(method.getName());
            if (!due) {
                Check.fail(method.getName() + java.util.Arrays.toString(args) + " threw " + e.getCause());
            }
        }
    }
}
