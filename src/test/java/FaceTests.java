import java.io.IOException;
import java.lang.reflect.Array;
import java.lang.reflect.Constructor;
import java.lang.reflect.Field;
import java.lang.reflect.Method;
import java.lang.reflect.Modifier;
import java.nio.charset.StandardCharsets;
import java.nio.file.Files;
import java.nio.file.Path;
import java.util.ArrayDeque;
import java.util.Arrays;
import java.util.Collections;
import java.util.Deque;
import java.util.IdentityHashMap;
import java.util.Set;
import java.util.TreeSet;

/** The face of the document, member by member, and those rules of LANGUAGE.md that a test can see. */
public final class FaceTests {
    private static final String INDEX = "IndexOutOfBoundsException";
    private static final String STATE = "IllegalStateException";
    private static final String ARGUMENT = "IllegalArgumentException";
    private static final String[] FACE = {
        "int thing(int,int,int,int) " + STATE, "int list(int,int) " + STATE, "int step(int,int) " + STATE,
        "int maker(int) " + STATE + " " + ARGUMENT, "int open() " + STATE,
        move("place", 3), "int take(int) " + INDEX + " " + STATE, move("move", 3), move("swap", 2), move("turn", 3),
        move("tails", 4), move("fact", 3), move("listFact", 3), move("link", 2), move("freeze", 2),
        "void begin() " + STATE, "int end() " + STATE, "int drop() " + STATE, "int undo() " + STATE,
        "long shadow(int,int) " + INDEX + " " + ARGUMENT, "long listShadow(int,int) " + INDEX + " " + ARGUMENT,
        "int where(int,int) " + INDEX + " " + ARGUMENT, "int at(int,int) " + INDEX, "int worked(int)", "int order(int)",
        "int ring(int)", "int cause(int) " + ARGUMENT, "int count(int) " + ARGUMENT, "boolean isSame()"};

    private static int wrong;

    public static void main(String[] args) throws IOException, IllegalAccessException {
        methods();
        fields();
        others();
        words();
        references();
        room();
        System.out.println(wrong == 0 ? "the face is as due" : wrong + " parts of the face are not as due");
        if (wrong != 0) {
            System.exit(1);
        }
    }

    private static String move(String name, int numbers) {
        return "int " + name + "(int" + ",int".repeat(numbers - 1) + ") " + INDEX + " " + STATE + " " + ARGUMENT;
    }

    private static void must(String what, boolean good) {
        if (!good) {
            wrong++;
            System.out.println("not so: " + what);
        }
    }

    private static String told(Method m) {
        StringBuilder b = new StringBuilder(m.getReturnType() + " " + m.getName() + "(");
        for (Class<?> p : m.getParameterTypes()) {
            b.append(b.charAt(b.length() - 1) == '(' ? "" : ",").append(p);
        }
        b.append(")");
        for (Class<?> e : m.getExceptionTypes()) {
            b.append(" ").append(e.getSimpleName());
        }
        return b.toString();
    }

    private static void methods() {
        Set<String> due = new TreeSet<>(Arrays.asList(FACE));
        Set<String> names = new TreeSet<>();
        Set<String> got = new TreeSet<>();
        for (Method m : ShadowOrder.class.getDeclaredMethods()) {
            if (Modifier.isPublic(m.getModifiers())) {
                names.add(m.getName());
                got.add(told(m));
                must(m + " is no static method", !Modifier.isStatic(m.getModifiers()));
            }
        }
        must("the methods are " + due + ", they are " + got, due.equals(got));
        for (Method m : ShadowOrder.class.getDeclaredMethods()) {
            boolean open = Modifier.isPublic(m.getModifiers());
            must(m + " is private", open || m.isSynthetic() || Modifier.isPrivate(m.getModifiers()));
            must(m + " has a name of its own", open || !names.contains(m.getName()));
        }
        for (Class<?> c : ShadowOrder.class.getDeclaredClasses()) {
            for (Method m : c.getDeclaredMethods()) {
                must(m + " has a name of its own", !names.contains(m.getName()));
                must(m + " takes seven numbers at most", m.getParameterCount() <= 7);
            }
        }
    }

    private static void fields() {
        Set<String> open = new TreeSet<>();
        for (Field f : ShadowOrder.class.getDeclaredFields()) {
            int how = f.getModifiers();
            if (Modifier.isPublic(how)) {
                open.add(f.getName());
                must(f + " is a constant of int", Modifier.isStatic(how) && f.getType() == int.class);
            } else {
                must(f + " is private", Modifier.isPrivate(how));
            }
            must(f + " is final if static", !Modifier.isStatic(how) || Modifier.isFinal(how));
        }
        must("the constants", open.equals(new TreeSet<>(Arrays.asList("NONE", "REFUSED", "FAILED", "KEPT", "NO"))));
    }

    private static void others() {
        must("the class is public and final", Modifier.isPublic(ShadowOrder.class.getModifiers())
            && Modifier.isFinal(ShadowOrder.class.getModifiers()));
        Constructor<?>[] made = ShadowOrder.class.getDeclaredConstructors();
        must("one constructor, public and without numbers", made.length == 1 && made[0].getParameterCount() == 0
            && Modifier.isPublic(made[0].getModifiers()));
        Class<?>[] inside = ShadowOrder.class.getDeclaredClasses();
        must("some twelve classes at most", inside.length < 12);
        for (Class<?> c : inside) {
            int how = c.getModifiers();
            must(c + " is static and not public", Modifier.isStatic(how) && !Modifier.isPublic(how)
                && !Modifier.isProtected(how));
            int fields = 0;
            for (Field f : c.getDeclaredFields()) {
                fields += Modifier.isStatic(f.getModifiers()) ? 0 : 1;
            }
            must(c + " has some twenty fields at most", fields <= 20);
        }
    }

    private static void words() throws IOException {
        String text = Files.readString(Path.of("src/main/java/ShadowOrder.java"), StandardCharsets.ISO_8859_1);
        String[] ruledOut = {"package ", "->", "::", "try ", "catch", "finally", "synchronized", "assert ", "Exact(",
            "double", "float", "Random", "Thread", "nanoTime", "currentTimeMillis", "System.out", "hashCode", "equals(",
            "toString", "getMessage", "extends Exception", "extends RuntimeException"};
        for (String word : ruledOut) {
            must("the program does without " + word, !text.contains(word));
        }
        for (String line : text.split("\n")) {
            must("no import but of what is listed: " + line,
                !line.startsWith("import ") || line.matches("import java\\.util\\.(Arrays|ArrayList|List);"));
        }
    }

    // ---- what an object holds

    private static void references() throws IllegalAccessException {
        must("no reference of a new object is null", new Held(new ShadowOrder()).nulls == 0);
    }

    /** The room of a run: some 600,000 objects and 7.3 million fields and elements. */
    private static void room() throws IllegalAccessException {
        ShadowOrder x = new ShadowOrder();
        Held fresh = new Held(x);
        must("a new object is small: " + fresh, fresh.objects < 100 && fresh.elements < 10_000);
        x.list(0, 0);
        for (int t = 0; t < 40; t++) {
            x.thing(t, 0, 0, 0);
        }
        x.open();
        for (int t = 0; t < 40; t++) {
            x.place(t, 0, t);
        }
        for (int n = 0; n < 430; n++) {
            x.fact(n % 40, n % 4, n);
        }
        Held full = new Held(x);
        must("512 calls keep little: " + full, full.objects < 2_000 && full.elements < 100_000);
    }

    /** All that can be reached from an object: objects and arrays, fields and elements, and fields that are null. */
    private static final class Held {
        final Set<Object> found = Collections.newSetFromMap(new IdentityHashMap<>());
        final Deque<Object> open = new ArrayDeque<>();
        int objects;
        int elements;
        int nulls;

        Held(Object from) throws IllegalAccessException {
            reach(from);
            while (!open.isEmpty()) {
                Object one = open.remove();
                objects++;
                if (one.getClass().isArray()) {
                    elements(one);
                } else {
                    fields(one);
                }
            }
        }

        private void reach(Object one) {
            if (found.add(one)) {
                open.add(one);
            }
        }

        private void elements(Object array) {
            int n = Array.getLength(array);
            elements += n;
            for (int i = 0; i < n && !array.getClass().getComponentType().isPrimitive(); i++) {
                // a place of an array may wait for what is made when it is first needed
                if (Array.get(array, i) != null) {
                    reach(Array.get(array, i));
                }
            }
        }

        private void fields(Object one) throws IllegalAccessException {
            for (Field f : one.getClass().getDeclaredFields()) {
                if (Modifier.isStatic(f.getModifiers())) {
                    continue;
                }
                elements++;
                f.setAccessible(true);
                if (f.getType().isPrimitive()) {
                    continue;
                }
                if (f.get(one) == null) {
                    nulls++;
                } else {
                    reach(f.get(one));
                }
            }
        }

        @Override
        public String toString() {
            return objects + " objects and arrays, " + elements + " fields and elements";
        }
    }
}
