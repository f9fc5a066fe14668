import java.lang.reflect.Constructor;
import java.lang.reflect.Field;
import java.lang.reflect.Method;
import java.lang.reflect.Modifier;
import java.util.Set;
import java.util.TreeSet;

/** The public face is the document's and nothing else, and the members keep to LANGUAGE.md. */
public final class FaceTest {
    private static final Check CHECK = new Check("FaceTest");

    private static final Set<String> METHODS = Set.of(
            "int addNode(int, int, int, int)",
            "int rankOf(int)",
            "boolean accepted()",
            "boolean admissible(int, int, int)",
            "int dimOf(int, int)",
            "int symbolValue(int)",
            "boolean symbolsEqual(int, int)",
            "boolean bind(int, int)",
            "int boundValue(int)",
            "boolean setData(int, int, int)",
            "boolean run()",
            "int runState()",
            "int trapNode()",
            "int valueDim(int, int)",
            "int valueAt(int, int)");

    private static final Set<String> CONSTANTS = Set.of(
            "K_INPUT=1", "K_ADD=2", "K_MUL=3", "K_MATMUL=4", "K_TRANSPOSE=5", "K_RESHAPE=6",
            "K_SUM=7", "MAX_NODES=16", "SYMBOLS=3", "DATA_CELLS=36", "DIM_NONE=0",
            "DIM_VARIES=-4", "RUN_NONE=0", "RUN_OK=1", "RUN_TRAP=2");

    private static String signature(Method m) {
        StringBuilder text = new StringBuilder(m.getReturnType() + " " + m.getName() + "(");
        Class<?>[] types = m.getParameterTypes();
        for (int i = 0; i < types.length; i++) {
            text.append(i == 0 ? "" : ", ").append(types[i]);
        }
        return text.append(")").toString();
    }

    private static void sameNames(String what, Set<String> got, Set<String> want) {
        CHECK.due(what + " " + new TreeSet<>(got) + " against " + new TreeSet<>(want),
                got.equals(want), true);
    }

    private static void methods(Class<?> face) {
        Set<String> publicOnes = new TreeSet<>();
        Set<String> publicNames = new TreeSet<>();
        for (Method m : face.getDeclaredMethods()) {
            if (Modifier.isPublic(m.getModifiers())) {
                publicOnes.add(signature(m));
                publicNames.add(m.getName());
                CHECK.due(m + " is static", Modifier.isStatic(m.getModifiers()), false);
            }
        }
        for (Method m : face.getDeclaredMethods()) {
            int mods = m.getModifiers();
            CHECK.due(m + " is public or private",
                    Modifier.isPublic(mods) || Modifier.isPrivate(mods), true);
            CHECK.due(m + " bears a public name",
                    Modifier.isPrivate(mods) && publicNames.contains(m.getName()), false);
            CHECK.due(m + " answers an array", m.getReturnType().isArray(), false);
            CHECK.due(m + " takes at most seven", m.getParameterCount() <= 7, true);
        }
        sameNames("public methods", publicOnes, METHODS);
    }

    private static void fields(Class<?> face) throws IllegalAccessException {
        Set<String> publicOnes = new TreeSet<>();
        int own = 0;
        for (Field f : face.getDeclaredFields()) {
            int mods = f.getModifiers();
            CHECK.due(f + " is public or private",
                    Modifier.isPublic(mods) || Modifier.isPrivate(mods), true);
            if (Modifier.isPublic(mods)) {
                CHECK.due(f + " is a constant", Modifier.isStatic(mods) && Modifier.isFinal(mods), true);
                publicOnes.add(f.getName() + "=" + f.getInt(null));
            }
            if (Modifier.isStatic(mods)) {
                CHECK.due(f + " is of int or long",
                        f.getType() == int.class || f.getType() == long.class, true);
            } else {
                own++;
            }
        }
        CHECK.due("at most forty fields", own <= 40, true);
        sameNames("public constants", publicOnes, CONSTANTS);
    }

    public static void main(String[] args) throws IllegalAccessException {
        Class<?> face = ShapeInference.class;
        CHECK.due("class is public and final",
                Modifier.isPublic(face.getModifiers()) && Modifier.isFinal(face.getModifiers()), true);
        CHECK.due("no nested class", face.getDeclaredClasses().length, 0);
        CHECK.due("extends Object alone", face.getSuperclass() == Object.class, true);
        CHECK.due("no interface", face.getInterfaces().length, 0);
        Constructor<?>[] made = face.getDeclaredConstructors();
        CHECK.due("one constructor", made.length, 1);
        CHECK.due("constructor is public", Modifier.isPublic(made[0].getModifiers()), true);
        CHECK.due("constructor takes one int", made[0].getParameterCount() == 1
                && made[0].getParameterTypes()[0] == int.class, true);
        methods(face);
        fields(face);
        CHECK.end();
    }
}
