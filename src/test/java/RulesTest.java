import java.io.IOException;
import java.lang.reflect.Constructor;
import java.lang.reflect.Field;
import java.lang.reflect.Method;
import java.lang.reflect.Modifier;
import java.nio.file.Files;
import java.nio.file.Path;
import java.util.Arrays;
import java.util.List;
import java.util.Random;
import java.util.Set;
import java.util.TreeSet;

/** The public face, and the rules of ../shared/LANGUAGE.md that can be seen without reading. */
public final class RulesTest {
    private static final String FACE = "int sign(int) int scrap() int piece(int) int drop() int turn() int of(int,int)"
            + " int far(int,int) int from(int) int story(int) int hand(int,int,int) int hours(int,int)"
            + " int term(int,int,int) int forget(int,int) int write(int,int,int) int review(int,int,int)"
            + " int reuse(int,int,int) int text(int,int,int) int fault(int,int) int limit(int)"
            + " int nearest(int,int,int) int memory(int,int) int effort(int,int) int plan(int,int)"
            + " int planned(int,int) int release(int,int) int many(int) int keep() int back()";
    private static final String CONSTANTS =
            "NUMBER=-1 FULL=-2 KIND=-3 STATE=-4 NONE=-5 SIZE=-6 OWN=-7 FAULT=-10";
    private static final List<String> BANNED = List.of("throw", "throws", "try", "catch", "finally", "synchronized",
            "assert", "import", "package", "native", "volatile", "Object", "System", "Random", "Thread");

    private static int wrong = 0;

    public static void main(String[] args) throws IllegalAccessException, IOException {
        face();
        constants();
        constructors();
        namesOfOwnMethods();
        classesInside();
        fieldsOfClasses();
        source();
        noCallThrows();
        System.out.println(wrong == 0 ? "the rules are kept" : wrong + " rules are broken");
        if (wrong != 0) {
            System.exit(1);
        }
    }

    private static void due(String what, Object got, Object want) {
        if (!got.equals(want)) {
            wrong++;
            System.out.println(what + ": " + got + ", due is " + want);
        }
    }

    private static void face() {
        Set<String> want = new TreeSet<>(Arrays.asList(FACE.replace("int ", ";").replace(" ;", ";").split(";")));
        want.remove("");
        Set<String> got = new TreeSet<>();
        for (Method m : GlossHouse.class.getDeclaredMethods()) {
            if (!Modifier.isPrivate(m.getModifiers()) && !m.isSynthetic()) {
                due(m + " is public and not static", m.getModifiers(), Modifier.PUBLIC);
                due(m + " answers", m.getReturnType(), int.class);
                got.add(m.getName() + Arrays.toString(m.getParameterTypes()).replace("[", "(").replace("]", ")")
                        .replace(" ", ""));
            }
        }
        due("the methods of the face", got, want);
        due("the class is public and final", GlossHouse.class.getModifiers(), Modifier.PUBLIC | Modifier.FINAL);
    }

    private static void constants() throws IllegalAccessException {
        Set<String> got = new TreeSet<>();
        for (Field f : GlossHouse.class.getDeclaredFields()) {
            if (!Modifier.isPrivate(f.getModifiers())) {
                due(f + " is a constant", f.getModifiers(), Modifier.PUBLIC | Modifier.STATIC | Modifier.FINAL);
                got.add(f.getName() + "=" + f.get(null));
            }
        }
        due("the constants", got, new TreeSet<>(Arrays.asList(CONSTANTS.split(" "))));
    }

    private static void constructors() {
        Constructor<?>[] all = GlossHouse.class.getDeclaredConstructors();
        due("constructors", all.length, 1);
        due("the constructor is public", all[0].getModifiers(), Modifier.PUBLIC);
        due("its parameters", all[0].getParameterCount(), 0);
    }

    private static Set<String> publicNames() {
        Set<String> names = new TreeSet<>();
        for (Method m : GlossHouse.class.getDeclaredMethods()) {
            if (Modifier.isPublic(m.getModifiers())) {
                names.add(m.getName());
            }
        }
        return names;
    }

    private static void namesOfOwnMethods() {
        Set<String> names = publicNames();
        for (Method m : GlossHouse.class.getDeclaredMethods()) {
            if (Modifier.isPrivate(m.getModifiers())) {
                due(m.getName() + " bears a public name", names.contains(m.getName()), false);
            }
        }
        for (Class<?> inside : GlossHouse.class.getDeclaredClasses()) {
            for (Method m : inside.getDeclaredMethods()) {
                due(m.getName() + " bears a public name", names.contains(m.getName()), false);
                due(m.getName() + " has at most seven parameters", m.getParameterCount() <= 7, true);
            }
        }
    }

    private static void classesInside() {
        Class<?>[] inside = GlossHouse.class.getDeclaredClasses();
        due("at most twelve classes", inside.length + 1 <= 12, true);
        for (Class<?> one : inside) {
            due(one + " is static", Modifier.isStatic(one.getModifiers()), true);
            due(one + " is not public", Modifier.isPublic(one.getModifiers()), false);
            for (Field f : one.getDeclaredFields()) {
                due(f + ", if static, is final", !Modifier.isStatic(f.getModifiers())
                        || Modifier.isFinal(f.getModifiers()), true);
            }
        }
    }

    /** "A class some twenty fields beside its constants", and none of them static but constants. */
    private static void fieldsOfClasses() {
        List<Class<?>> all = new java.util.ArrayList<>(Arrays.asList(GlossHouse.class.getDeclaredClasses()));
        all.add(GlossHouse.class);
        for (Class<?> one : all) {
            int own = 0;
            for (Field f : one.getDeclaredFields()) {
                boolean isStatic = Modifier.isStatic(f.getModifiers());
                own += isStatic ? 0 : 1;
                due(f + " is static and no number", isStatic && !f.getType().isPrimitive(), false);
            }
            due(one + " has at most twenty fields", own <= 20, true);
        }
    }

    private static void source() throws IOException {
        String code = Files.readString(Path.of("src/main/java/GlossHouse.java"))
                .replaceAll("(?s)/\\*.*?\\*/", "").replaceAll("//[^\n]*", "");
        for (String word : BANNED) {
            due("'" + word + "' stands in the program",
                    java.util.regex.Pattern.compile("\\b" + word + "\\b").matcher(code).find(), false);
        }
        due("a lambda or a method reference", code.contains("->") || code.contains("::"), false);
        due("signs beyond 127", code.chars().anyMatch(c -> c > 127), false);
    }

    /** "No call may ever throw", for any arguments in any state: also when an object has had its 512 calls. */
    private static void noCallThrows() {
        int[] odd = {Integer.MIN_VALUE, Integer.MIN_VALUE + 9, Integer.MIN_VALUE + 10, -1, 8, 20, 103, 104, 299, 300,
            Integer.MAX_VALUE};
        Random random = new Random(7);
        Method[] calls = GlossHouse.class.getDeclaredMethods();
        Arrays.sort(calls, (a, b) -> a.getName().compareTo(b.getName()));
        for (int run = 0; run < 20; run++) {
            GlossHouse x = new GlossHouse();
            if (run % 2 == 1) {
                Houses.full(x);
            }
            for (int i = 0; i < 3000; i++) {
                Method call = calls[random.nextInt(calls.length)];
                if (Modifier.isPublic(call.getModifiers())) {
                    int[] arguments = new int[call.getParameterCount()];
                    for (int a = 0; a < arguments.length; a++) {
                        int sort = random.nextInt(6);
                        arguments[a] = sort == 0 ? odd[random.nextInt(odd.length)]
                                : sort == 1 ? random.nextInt() : sort == 2 ? random.nextInt(300) : random.nextInt(3);
                    }
                    Calls.ask(x, call.getName(), arguments);
                }
            }
        }
    }
}
