import java.lang.reflect.InvocationTargetException;
import java.lang.reflect.Method;
import java.lang.reflect.Modifier;
import java.util.ArrayList;
import java.util.Comparator;
import java.util.List;
import java.util.NoSuchElementException;
import java.util.Random;

/** Every call with any numbers in any state: only the document's exception, only where it is told. */
public final class WildTest {

    private static final int RUNS = 300;
    private static final String[] TOWNS = {
        "", "man a;comes a 0 0 0;", "man a;man b;comes a 0 0 0;comes b 0 0 0;",
        "man a;man b;man c;man d;man e;man f;man g;man h;name i;name j;name k;name l;comes a 0 0 9;"
            + "comes b 0 1 9;comes c 0 2 9;comes d 0 3 9;comes e 0 4 9;comes f 0 5 9;comes g 0 6 9;"
            + "comes h 0 7 9;comes a 1 0 99;comes b 1 0 99;comes a 29 9 9;foes a b;foes c d;foes g h;"
            + "brings l 0 99/1 11;brings a 0 -99/1 7;brings b 29 9;owes a b 0 99;owes b c 0 98;"
            + "owes c d 0 97;owes l k 0 1;",
        "man a;man b;man c;man d;man e;man f;man g;man h;comes a 0 0 9;comes b 0 1 9;comes c 0 2 9;"
            + "comes d 0 3 9;comes e 0 4 9;comes f 0 5 9;comes g 0 6 9;comes h 0 7 9;"};
    private static final String[] SIGHTS = {"", "a is b;", "a not b c;b is a c;", "a is a;", "l not a;"};

    public static void main(String[] args) throws IllegalAccessException {
        List<Method> calls = new ArrayList<>();
        for (Method method : GateNames.class.getDeclaredMethods()) {
            if (Modifier.isPublic(method.getModifiers())) {
                calls.add(method);
            }
        }
        calls.sort(Comparator.comparing(Method::getName));
        Random lot = new Random(7);
        for (int run = 0; run < RUNS; run++) {
            GateNames x = new GateNames();
            for (int step = 0; step < 500; step++) {
                if (step % 60 == 0) {
                    x.end(0);
                    Check.town(x, TOWNS[lot.nextInt(TOWNS.length)]);
                }
                if (step % 60 % 20 == 5) {
                    x.drawn(lot.nextInt());
                    x.end(0);
                    Check.sights(x, SIGHTS[lot.nextInt(SIGHTS.length)]);
                }
                call(x, calls.get(lot.nextInt(calls.size())), lot);
            }
        }
        Check.end("WildTest");
    }

    private static int number(Random lot) {
        return switch (lot.nextInt(12)) {
            case 0 -> Integer.MIN_VALUE;
            case 1 -> Integer.MAX_VALUE;
            case 2 -> lot.nextInt();
            case 3 -> lot.nextInt(200) - 50;
            case 4 -> 31 + lot.nextInt(3);
            default -> lot.nextInt(15) - 2;
        };
    }

    private static void call(GateNames x, Method method, Random lot) throws IllegalAccessException {
        Object[] numbers = new Object[method.getParameterCount()];
        for (int i = 0; i < numbers.length; i++) {
            numbers[i] = number(lot);
        }
        int kind = 0;
        try {
            method.invoke(x, numbers);
        } catch (InvocationTargetException e) {
            boolean told = method.getExceptionTypes().length == 1;
            kind = told && e.getCause().getClass() == NoSuchElementException.class ? 0 : 1;
            if (kind != 0) {
                e.getCause().printStackTrace(System.out);
            }
        }
        Check.due(method.getName() + " throws what is not told", kind, 0);
    }
}
