import java.io.IOException;
import java.lang.reflect.Constructor;
import java.lang.reflect.Field;
import java.lang.reflect.Method;
import java.lang.reflect.Modifier;
import java.nio.file.Files;
import java.nio.file.Path;
import java.util.ArrayList;
import java.util.Arrays;
import java.util.List;
import java.util.Set;
import java.util.TreeSet;
import java.util.regex.Matcher;
import java.util.regex.Pattern;

/** The public face as the document tells it, and those rules of LANGUAGE.md that the class and its text show. */
public final class FaceTest {
    private static final String INTS = "tunnel 3,wall 2,far 2,person 3,walk 2,of 2,good 1,test 1,answer 3,sheet 5,apart 2,"
        + "sure 2,keep 1,ban 2,tree 1,copper 2,asks 2,sign 1,rule 0,first 2,order 0,want 3,item 3,thing 2,wind 1,rounds 1,"
        + "settles 0,buy 2,undo 0,counted 3,been 4,missing 1,suspects 2,gang 0,clink 3,hands 0,loud 1,loudest 0,heard 2,"
        + "crowds 2,gas 2,lasts 0,leave 0,ear 2,sound 2,judge 3,who 3,lamp 1,count 1";
    private static final Path SOURCE = Path.of("src/main/java/FairByEar.java");

    public static void main(String[] args) throws IOException {
        publicFace();
        toldFace();
        hiddenRest();
        List<Class<?>> all = new ArrayList<>(Arrays.asList(FairByEar.class.getDeclaredClasses()));
        all.add(FairByEar.class);
        Check.due("some twelve classes", all.size() <= 12, true);
        for (Class<?> one : all) {
            shape(one);
        }
        text();
        Check.done();
    }

    private static void publicFace() {
        Check.due("public and final", FairByEar.class.getModifiers(), Modifier.PUBLIC | Modifier.FINAL);
        Set<String> due = new TreeSet<>(List.of("boolean end 1", "long row 1"));
        for (String call : INTS.split(",")) {
            due.add("int " + call);
        }
        Set<String> there = new TreeSet<>();
        for (Method method : FairByEar.class.getDeclaredMethods()) {
            if (Modifier.isPublic(method.getModifiers())) {
                there.add(method.getReturnType() + " " + method.getName() + " " + method.getParameterCount());
                for (Class<?> kind : method.getParameterTypes()) {
                    Check.due(method.getName() + " takes ints", kind == int.class, true);
                }
            }
        }
        if (!due.equals(there)) {
            Check.fail("the face is " + there + ", due is " + due);
        }
        Check.due("NONE", FairByEar.NONE, -1);
    }

    /** Each line of the document's face stands in the class as it is, with a body where it has none. */
    private static void toldFace() throws IOException {
        if (!Doc.isThere()) {
            return;
        }
        Set<String> lines = new TreeSet<>();
        for (String line : Files.readString(SOURCE).split("\n")) {
            lines.add(line.strip());
        }
        int calls = 0;
        for (String told : Doc.face()) {
            boolean call = told.startsWith("public ") && told.contains("(");
            calls += call ? 1 : 0;
            Check.due("the class has: " + told, lines.contains(call ? told.replace(";", " {") : told), true);
        }
        Check.due("a constructor and as many calls as promises behind it", calls, 52);
    }

    private static void hiddenRest() {
        for (Field field : FairByEar.class.getDeclaredFields()) {
            boolean told = field.getName().equals("NONE");
            Check.due(field.getName() + " is hidden", Modifier.isPrivate(field.getModifiers()), !told);
        }
        Set<String> names = new TreeSet<>();
        for (Method method : FairByEar.class.getDeclaredMethods()) {
            if (Modifier.isPublic(method.getModifiers())) {
                names.add(method.getName());
            }
        }
        for (Method method : FairByEar.class.getDeclaredMethods()) {
            int seen = method.getModifiers();
            Check.due(method.getName() + " is public or private", Modifier.isPublic(seen) || Modifier.isPrivate(seen), true);
        }
        for (Class<?> inside : FairByEar.class.getDeclaredClasses()) {
            Check.due(inside + " is static", Modifier.isStatic(inside.getModifiers()), true);
            Check.due(inside + " is hidden", Modifier.isPublic(inside.getModifiers()), false);
            for (Method method : inside.getDeclaredMethods()) {
                Check.due(inside + " " + method.getName() + " has a name of its own", names.contains(method.getName()), false);
            }
        }
        for (Constructor<?> made : FairByEar.class.getDeclaredConstructors()) {
            Check.due("one constructor, without arguments", made.getParameterCount(), 0);
        }
    }

    private static void shape(Class<?> one) {
        int fields = 0;
        for (Field field : one.getDeclaredFields()) {
            if (Modifier.isStatic(field.getModifiers())) {
                Check.due(field + " is final", Modifier.isFinal(field.getModifiers()), true);
            } else {
                fields++;
            }
        }
        Check.due(one + ": some twenty fields", fields <= 20, true);
        for (Method method : one.getDeclaredMethods()) {
            Check.due(method + ": at most seven parameters", method.getParameterCount() <= 7, true);
        }
    }

    private static void text() throws IOException {
        String all = Files.readString(SOURCE);
        String code = all.replaceAll("(?s)/\\*.*?\\*/", "").replaceAll("//.*", "");
        for (char c : all.toCharArray()) {
            Check.due("plain signs", c == '\n' || c >= 32 && c < 127, true);
        }
        String[] never = {"->", "::", "\\bcatch\\b", "\\bfinally\\b", "\\bsynchronized\\b", "\\bassert\\b", "\\bwhile *\\( *true",
            "Exact\\b", "\\bpackage\\b", "\\bdouble\\b", "\\bfloat\\b", "\\bMath\\.random", "\\bSystem\\.(?!arraycopy)",
            "\\bthrow new (?!NoSuchElementException\\(\\))", "\\bvar\\b", "\"", "\\bgetClass\\b", "\\.hashCode", "\\bstatic *\\{"};
        for (String bad : never) {
            Matcher found = Pattern.compile(bad).matcher(code);
            if (found.find()) {
                Check.fail("the class has: " + found.group());
            }
        }
        Set<String> imports = new TreeSet<>();
        Matcher told = Pattern.compile("import ([\\w.]+);").matcher(code);
        while (told.find()) {
            imports.add(told.group(1));
        }
        imports.removeAll(Set.of("java.util.Arrays", "java.util.NoSuchElementException"));
        Check.due("imports", imports.size(), 0);
        arraysOnlyInFields(code);
        shortMethods(all);
    }

    /** Rows are made once, with the object, and used again. */
    private static void arraysOnlyInFields(String code) {
        for (String line : code.split("\n")) {
            if (line.contains("new int[") || line.contains("new long[") || line.contains("new boolean[")) {
                Check.due("made with the object: " + line.trim(), line.trim().startsWith("private final"), true);
            }
        }
    }

    private static void shortMethods(String all) {
        int from = -1;
        int indent = 0;
        String[] lines = all.split("\n");
        for (int i = 0; i < lines.length; i++) {
            String line = lines[i];
            int depth = line.length() - line.stripLeading().length();
            boolean opens = line.endsWith("{") && line.contains("(") && !line.contains(" class ") && (depth == 4 || depth == 8);
            if (from < 0 && opens && !line.strip().matches("(if|for|switch|while|else|} else).*")) {
                from = i;
                indent = depth;
            } else if (from >= 0 && depth == indent && line.strip().equals("}")) {
                Check.due("short: " + lines[from].strip(), i - from <= 60, true);
                from = -1;
            }
        }
    }
}
