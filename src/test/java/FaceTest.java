import java.lang.reflect.Constructor;
import java.lang.reflect.Field;
import java.lang.reflect.Method;
import java.lang.reflect.Modifier;
import java.util.ArrayList;
import java.util.List;
import java.util.Random;
import java.util.Set;
import java.util.TreeSet;

/** The face as the document has it, and calls with any numbers: none throws. */
public final class FaceTest {
    private static int wrong = 0;

    private static final String[] METHODS = {"write 1", "erase 0", "fault 0", "city 0", "fact 2", "one 2", "cause 2", "belief 2",
        "as 2", "sayingAs 2", "so 5", "say 6", "night 0", "undo 0", "keep 1", "back 1", "coming 2", "best 1", "empty 2", "said 3",
        "rests 5", "bet 2", "call 0", "sure 1", "plan 2", "sieges 3", "count 1"};
    private static final String[] CONSTANTS = {"NONE -1", "UNKNOWN -2", "OUTSIDE -3", "NOT -4", "FULL -5"};

    private static void check(boolean fine, String what) {
        if (!fine) {
            wrong++;
            System.out.println(what);
        }
    }

    private static void face() throws Exception {
        Class<?> type = NeverBelieved.class;
        check(Modifier.isPublic(type.getModifiers()) && Modifier.isFinal(type.getModifiers()), "the class is not public and final");
        Set<String> methods = new TreeSet<>();
        Set<String> hidden = new TreeSet<>();
        for (Method m : type.getDeclaredMethods()) {
            if (m.isSynthetic()) continue;
            if (Modifier.isPrivate(m.getModifiers())) {
                hidden.add(m.getName());
            } else {
                methods.add(m.getName() + " " + m.getParameterCount());
                check(Modifier.isPublic(m.getModifiers()) && m.getReturnType() == int.class, m.getName() + " is not public int");
            }
        }
        check(methods.equals(new TreeSet<>(List.of(METHODS))), "the methods are " + methods);
        for (String method : METHODS) check(!hidden.contains(method.split(" ")[0]), method + " is private, too");
        Set<String> constants = new TreeSet<>();
        for (Field f : type.getDeclaredFields()) {
            if (!Modifier.isPrivate(f.getModifiers())) constants.add(f.getName() + " " + f.getInt(null));
            check(!Modifier.isStatic(f.getModifiers()) || Modifier.isFinal(f.getModifiers()), f.getName() + " is static, not final");
        }
        check(constants.equals(new TreeSet<>(List.of(CONSTANTS))), "the constants are " + constants);
        Constructor<?>[] constructors = type.getDeclaredConstructors();
        check(constructors.length == 1 && Modifier.isPublic(constructors[0].getModifiers())
                && constructors[0].getParameterCount() == 0, "the constructor is another");
    }

    private static int any(Random random) {
        return switch (random.nextInt(8)) {
            case 0 -> Integer.MIN_VALUE + random.nextInt(3);
            case 1 -> Integer.MAX_VALUE - random.nextInt(3);
            case 2 -> random.nextInt();
            case 3 -> random.nextInt(300) - 20;
            default -> random.nextInt(9) - 1;
        };
    }

    private static void anyCalls() throws Exception {
        List<Method> methods = new ArrayList<>();
        for (Method m : NeverBelieved.class.getDeclaredMethods()) {
            if (Modifier.isPublic(m.getModifiers())) methods.add(m);
        }
        methods.sort((a, b) -> a.getName().compareTo(b.getName()));
        String[] texts = {"", "city;good 9 1;bad 40 0;child 0 1 1 1;knower 1 0 0 0 3;interpreter 0 0 1 0",
            "good 9 1;bad 40 0;good 3 1;bad 8 1;good 7 0;good 1 1;doubter 5 0 4 1;cause 3 1 2 0;cause 4 0 4 1"};
        Random random = new Random(7);
        for (int run = 0; run < 300; run++) {
            NeverBelieved x = new NeverBelieved();
            String text = texts[run % texts.length];
            for (int i = 0; i < text.length(); i++) x.write(text.charAt(i));
            x.city();
            for (int k = 0; k < 300; k++) {
                Method m = methods.get(random.nextInt(methods.size()));
                Object[] arguments = new Object[m.getParameterCount()];
                for (int i = 0; i < arguments.length; i++) arguments[i] = any(random);
                try {
                    int answer = (int) m.invoke(x, arguments);
                    check(answer >= NeverBelieved.FULL, m.getName() + " answered " + answer);
                } catch (java.lang.reflect.InvocationTargetException e) {
                    check(false, m.getName() + java.util.Arrays.toString(arguments) + " threw " + e.getCause());
                }
            }
        }
    }

    public static void main(String[] args) throws Exception {
        face();
        anyCalls();
        System.out.println("the face, any calls: " + wrong + " faults");
        if (wrong != 0) System.exit(1);
    }
}
