import java.lang.reflect.InvocationTargetException;
import java.lang.reflect.Method;
import java.lang.reflect.Modifier;
import java.util.Arrays;
import java.util.Comparator;

/** Runs each case of a test: a static method without arguments, named after the term or promise whose sentence it asks. */
final class Cases {
    static final int NONE = -1;
    static final String FOUR = "badc/cdab";
    static final String CIRCLE = "bcdefa/abcdef";
    private static String now = "";
    private static int asked = 0;
    private static int wrong = 0;

    private Cases() {
    }

    /** Ends the program with 1 if one case is wrong. */
    static void run(Class<?> test) {
        Method[] methods = test.getDeclaredMethods();
        Arrays.sort(methods, Comparator.comparing(Method::getName));
        int cases = 0;
        for (Method method : methods) {
            if (isCase(method)) {
                cases++;
                runOne(method);
            }
        }
        System.out.println(test.getName() + ": " + cases + " cases, " + asked + " answers, " + wrong + " not as due");
        if (wrong != 0 || cases == 0) {
            System.exit(1);
        }
    }

    private static boolean isCase(Method method) {
        int flags = method.getModifiers();
        return Modifier.isStatic(flags) && !Modifier.isPrivate(flags) && !method.isSynthetic()
                && method.getParameterCount() == 0 && method.getReturnType() == void.class;
    }

    private static void runOne(Method method) {
        now = method.getDeclaringClass().getName() + "." + method.getName();
        int before = asked;
        try {
            method.invoke(null);
        } catch (InvocationTargetException thrown) {
            tell("threw " + thrown.getCause());
        } catch (IllegalAccessException hidden) {
            tell("can't be run: " + hidden);
        }
        if (asked == before) {
            tell("asks nothing");
        }
    }

    private static void tell(String what) {
        wrong++;
        System.out.println(now + ": " + what);
    }

    static void due(String what, long due, long got) {
        asked++;
        if (got != due) {
            tell(what + " answered " + got + ", due is " + due);
        }
    }

    static void due(String what, boolean due, boolean got) {
        due(what, due ? 1 : 0, got ? 1 : 0);
    }

    static void due(String what, String due, String got) {
        asked++;
        if (!got.equals(due)) {
            tell(what + " answered " + got + ", due is " + due);
        }
    }

    static Teller withRule(String rule) {
        Teller t = new Teller();
        if (t.rule(rule) != rule.indexOf('/')) {
            tell("rule " + rule + " is not taken");
        }
        return t;
    }

    static Teller withRoll(String rule, String roll) {
        Teller t = withRule(rule);
        if (t.roll(roll) != roll.split(";").length) {
            tell("roll " + roll + " is not taken");
        }
        return t;
    }

    static String times(String text, int n) {
        return text.repeat(n);
    }

    /** The numbers that no int argument of the class may throw with. */
    static final int[] FAR = {Integer.MIN_VALUE, Integer.MIN_VALUE + 1, -100000, -1, Integer.MAX_VALUE - 1, Integer.MAX_VALUE};
}
