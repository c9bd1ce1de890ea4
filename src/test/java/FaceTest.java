import java.io.IOException;
import java.lang.reflect.Array;
import java.lang.reflect.Constructor;
import java.lang.reflect.Field;
import java.lang.reflect.Method;
import java.lang.reflect.Modifier;
import java.nio.file.Files;
import java.nio.file.Path;
import java.util.Arrays;
import java.util.IdentityHashMap;
import java.util.Map;
import java.util.NoSuchElementException;
import java.util.TreeSet;
import java.util.Set;

/** The document's face and no more, the room that an object takes, and LANGUAGE.md where a look tells. */
public final class FaceTest {

    private static final String[] FACE = {
        "int feed(int, int, int, int, int)", "boolean end(int)", "int town()", "int fault()",
        "int man(int, int)!", "int owner(int)", "int comer(int, int)", "int when(int, int, int)",
        "long mean(int, int, int)!", "int give(int, int)", "int gave(int, int)", "int bearer(int, int)",
        "int idle(int)", "int dawn()", "int back()", "long out(int, int)!", "int debt(int, int)",
        "int net(int, int)", "int rings()", "long matched(int, int, int)!", "int matchedAs(int)",
        "long want(int, int, int)!", "long serial(int, int)!", "int serialAs(int)", "int envies(int)",
        "int inTown(int, int)", "int crowd(int, int)", "int rests()", "long lots(int)",
        "long lotsOf(int, int, int)", "long lotMean(int, int, int)!", "int meets(int, int)",
        "int later(int, int)", "int sights()", "int holds()", "int could(int)", "int look(int)",
        "int best()", "int questions(int)", "int drawn(int)", "boolean image(int)",
        "boolean restore(int)", "int count(int)"};

    private static final String[] RULED_OUT = {
        "synchronized", "assert ", "finally", "catch", "->", "::", "Exact", "getClass", "hashCode",
        "System.out", "static {", "protected ", "@", "Long.MIN_VALUE", "instanceof"};

    private static int objects;
    private static int elements;

    public static void main(String[] args) throws IllegalAccessException, IOException {
        face();
        classes();
        room();
        source(Files.readString(Path.of("src/main/java/GateNames.java")));
        Check.end("FaceTest");
    }

    private static void face() {
        Set<String> want = new TreeSet<>(Arrays.asList(FACE));
        Set<String> names = new TreeSet<>();
        Set<String> got = new TreeSet<>();
        for (Method method : GateNames.class.getDeclaredMethods()) {
            if (!Modifier.isPrivate(method.getModifiers())) {
                got.add(show(method));
                names.add(method.getName());
            }
        }
        Check.due("public methods " + got + " as told", got.equals(want), true);
        for (Method method : GateNames.class.getDeclaredMethods()) {
            boolean twin = Modifier.isPrivate(method.getModifiers()) && names.contains(method.getName());
            Check.due("private " + method.getName() + " bears a public one's name", twin, false);
        }
        for (Class<?> inside : GateNames.class.getDeclaredClasses()) {
            for (Method method : inside.getDeclaredMethods()) {
                Check.due(method.getName() + " bears a public one's name", names.contains(method.getName()), false);
            }
        }
        for (Field field : GateNames.class.getDeclaredFields()) {
            boolean none = field.getName().equals("NONE");
            Check.due("field " + field.getName(), Modifier.isPrivate(field.getModifiers()), !none);
        }
        Check.due("NONE", GateNames.NONE, -1);
        Constructor<?>[] constructors = GateNames.class.getDeclaredConstructors();
        Check.due("constructors", constructors.length, 1);
        Check.due("constructor", Modifier.isPublic(constructors[0].getModifiers()), true);
        Check.due("final", Modifier.isFinal(GateNames.class.getModifiers()), true);
    }

    private static String show(Method method) {
        String types = Arrays.stream(method.getParameterTypes()).map(Class::getName)
                .reduce((a, b) -> a + ", " + b).orElse("");
        boolean throwing = Arrays.equals(method.getExceptionTypes(), new Class<?>[] {NoSuchElementException.class});
        return method.getReturnType().getName() + " " + method.getName() + "(" + types + ")"
                + (throwing ? "!" : "");
    }

    private static void classes() {
        Class<?>[] inside = GateNames.class.getDeclaredClasses();
        Check.due("some twelve classes", inside.length < 13, true);
        for (Class<?> one : inside) {
            boolean right = Modifier.isStatic(one.getModifiers()) && !Modifier.isPublic(one.getModifiers());
            Check.due("class " + one.getName(), right, true);
            int fields = 0;
            for (Field field : one.getDeclaredFields()) {
                boolean fixed = Modifier.isStatic(field.getModifiers());
                fields += fixed ? 0 : 1;
                Check.due("static " + field, !fixed || Modifier.isFinal(field.getModifiers()), true);
            }
            Check.due("some twenty fields in " + one.getName(), fields <= 20, true);
        }
    }

    /** All that one object holds on to; a run may make many objects. */
    private static void room() throws IllegalAccessException {
        GateNames x = Check.with("man a;man b;comes a 0 0 0;comes b 0 0 0;");
        x.image(0);
        x.image(1);
        x.drawn(1);
        x.questions(0);
        weigh(x, new IdentityHashMap<>());
        System.out.println("an object: " + objects + " objects and arrays, " + elements + " fields and elements");
        Check.due("few objects", objects < 200, true);
        Check.due("few elements", elements < 8000, true);
    }

    private static void weigh(Object one, Map<Object, Boolean> seen) throws IllegalAccessException {
        if (one == null || seen.put(one, true) != null) {
            return;
        }
        objects++;
        if (one.getClass().isArray()) {
            elements += Array.getLength(one);
            if (one instanceof Object[] row) {
                for (Object part : row) {
                    weigh(part, seen);
                }
            }
            return;
        }
        for (Field field : one.getClass().getDeclaredFields()) {
            if (!Modifier.isStatic(field.getModifiers())) {
                elements++;
                field.setAccessible(true);
                if (!field.getType().isPrimitive()) {
                    weigh(field.get(one), seen);
                }
            }
        }
    }

    private static void source(String text) {
        String code = text.replaceAll("(?s)/\\*.*?\\*/", "").replaceAll("//[^\n]*", "");
        for (String word : RULED_OUT) {
            Check.due("the source has " + word, code.contains(word), false);
        }
        int start = -1;
        String[] lines = text.split("\n");
        for (int k = 0; k < lines.length; k++) {
            if (lines[k].matches("( {4}| {8})[a-z].*\\) (throws \\w+ )?\\{")) {
                start = k;
            } else if (lines[k].matches("( {4}| {8})\\}") && start >= 0) {
                Check.due("some sixty lines at " + (start + 1), k - start < 60, true);
                start = -1;
            }
            boolean plain = lines[k].chars().allMatch(c -> c >= 32 && c < 127);
            Check.due("line " + (k + 1) + " is plain", plain && lines[k].length() <= 100, true);
        }
        int made = code.split("\\bnew \\w+(\\[|\\()").length - 1;
        int thrown = code.split("throw new NoSuchElementException\\(\\)").length - 1;
        int rows = 0;
        for (String line : code.split("\n")) {
            boolean field = line.matches(" +private (static )?(final )?[\\w\\[\\]]+ \\w+ = .*");
            rows += field ? line.split("\\bnew \\w+(\\[|\\()").length - 1 : 0;
        }
        Check.due("all rows are made with their object", made, thrown + rows);
    }
}
