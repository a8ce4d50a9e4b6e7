import java.lang.reflect.Constructor;
import java.lang.reflect.Field;
import java.lang.reflect.Method;
import java.lang.reflect.Modifier;
import java.util.HashSet;
import java.util.Map;
import java.util.Set;
import java.util.TreeMap;
import java.util.TreeSet;

/** The public face of the document, whole and nothing else, and the rules of LANGUAGE.md that can be seen from outside. */
public final class FaceTest {
    private static final String[] FACE = {
        "int load(int,int,int)", "int store(int,int,int,int)", "int add(int,int,int,int)", "int fence(int,int)",
        "int depend(int,int,int)", "int initial(int,int)", "void clear()", "int solve()", "int events()",
        "int readIn(int,int)", "int memoryIn(int,int)", "int runIn(int,int)", "int always(int,int)",
        "int lost(int,int)", "int wantRead(int,int)", "int wantMemory(int,int)", "int wished()",
    };
    private static final Set<Class<?>> TYPES = Set.of(
        int.class, long.class, short.class, byte.class, char.class, boolean.class,
        int[].class, long[].class, short[].class, byte[].class, char[].class, boolean[].class);

    private static final Check check = new Check();

    public static void main(String[] args) throws IllegalAccessException {
        check.holds("the class is public and final",
            Modifier.isPublic(WeakOrderJudge.class.getModifiers()) && Modifier.isFinal(WeakOrderJudge.class.getModifiers()));
        check.due("nested classes", WeakOrderJudge.class.getDeclaredClasses().length, 0);
        constants();
        constructor();
        methods();
        fields();
        check.end();
    }

    private static Map<String, Integer> constantsOfTheDocument() {
        Map<String, Integer> due = new TreeMap<>();
        due.put("LOADS", 1);
        due.put("STORES", 2);
        due.put("FULL", 3);
        due.put("DATA", 1);
        due.put("ADDRESS", 2);
        due.put("CONTROL", 3);
        String[] refusals = {"BAD_THREAD", "BAD_ADDRESS", "BAD_KIND", "NO_ROOM", "BAD_EVENT", "BAD_PAIR", "ALREADY",
            "NOT_SOLVED", "NO_OUTCOME", "BAD_PLACE", "NOT_READING"};
        for (int i = 0; i < refusals.length; i++) {
            due.put(refusals[i], -1 - i);
        }
        return due;
    }

    private static void constants() throws IllegalAccessException {
        Map<String, Integer> found = new TreeMap<>();
        for (Field field : WeakOrderJudge.class.getDeclaredFields()) {
            if (!Modifier.isPrivate(field.getModifiers())) {
                check.holds(field + " is public static final int", Modifier.isPublic(field.getModifiers())
                    && Modifier.isStatic(field.getModifiers()) && Modifier.isFinal(field.getModifiers())
                    && field.getType() == int.class);
                found.put(field.getName(), field.getInt(null));
            }
        }
        check.holds("the constants are those of the document, not " + found, found.equals(constantsOfTheDocument()));
    }

    private static void constructor() {
        Constructor<?>[] all = WeakOrderJudge.class.getDeclaredConstructors();
        check.due("constructors", all.length, 1);
        check.holds("the constructor is public and takes two ints", all[0].toString().equals("public WeakOrderJudge(int,int)"));
    }

    private static void methods() {
        Set<String> found = new TreeSet<>();
        Set<String> publicNames = new HashSet<>();
        for (Method method : WeakOrderJudge.class.getDeclaredMethods()) {
            if (!Modifier.isPrivate(method.getModifiers())) {
                found.add(method.toString().replace("WeakOrderJudge.", ""));
                publicNames.add(method.getName());
            }
        }
        Set<String> due = new TreeSet<>();
        for (String line : FACE) {
            due.add("public " + line);
        }
        check.holds("the methods are those of the document, not " + found, found.equals(due));
        for (Method method : WeakOrderJudge.class.getDeclaredMethods()) {
            check.holds(method + " has at most seven parameters", method.getParameterCount() <= 7);
            boolean isPrivate = Modifier.isPrivate(method.getModifiers());
            check.holds(method + " has a name of its own", !isPrivate || !publicNames.contains(method.getName()));
            check.holds(method + " answers no array", !method.getReturnType().isArray());
        }
    }

    private static void fields() {
        int ofObjects = 0;
        for (Field field : WeakOrderJudge.class.getDeclaredFields()) {
            check.holds(field + " has a type of the language", TYPES.contains(field.getType()));
            if (Modifier.isStatic(field.getModifiers())) {
                boolean number = field.getType() == int.class || field.getType() == long.class;
                check.holds(field + " is a constant", Modifier.isFinal(field.getModifiers()) && number);
            } else {
                ofObjects++;
            }
        }
        check.holds("at most forty fields", ofObjects <= 40);
    }
}
