import java.lang.reflect.Constructor;
import java.lang.reflect.Field;
import java.lang.reflect.Method;
import java.lang.reflect.Modifier;
import java.util.Arrays;
import java.util.List;
import java.util.TreeSet;

/** The public face, with the rules of LANGUAGE.md for it. */
public final class FaceTest {
    private static final String[] METHODS = {
        "int tell(int)", "int rank(int,int)", "int set(int)", "int step()", "int run(int)", "int empty()",
        "int clauseOf(int,int)", "long tree(int)", "int widest(int)", "int refutation()", "int models()",
        "int model(int)", "long broken(int)", "long core()", "int follows(int)", "int share(int)", "int count(int)",
        "int undo()", "int type(int)", "int clearText()", "int fault(int)", "int play()"
    };

    private static final Due DUE = new Due();

    public static void main(String[] args) {
        Class<?> face = OrderedClauses.class;
        DUE.same("modifiers of the class", face.getModifiers(), Modifier.PUBLIC | Modifier.FINAL);
        methods(face);
        fields(face);
        constructors(face);
        DUE.close("FaceTest");
    }

    private static void methods(Class<?> face) {
        TreeSet<String> seen = new TreeSet<>();
        TreeSet<String> names = new TreeSet<>();
        for (Method m : face.getDeclaredMethods()) {
            if (!Modifier.isPrivate(m.getModifiers())) {
                DUE.same("modifiers of " + m.getName(), m.getModifiers(), Modifier.PUBLIC);
                seen.add(m.getReturnType() + " " + m.getName() + parameters(m));
                names.add(m.getName());
            }
        }
        DUE.holds("the public methods are " + seen, seen.equals(new TreeSet<>(Arrays.asList(METHODS))));
        for (Class<?> inside : withInner(face)) {
            for (Method m : inside.getDeclaredMethods()) {
                boolean clash = Modifier.isPrivate(m.getModifiers()) && names.contains(m.getName());
                DUE.holds("no private method is named " + m.getName(), !clash);
                DUE.holds("at most seven parameters of " + m.getName(), m.getParameterCount() <= 7);
            }
        }
    }

    private static List<Class<?>> withInner(Class<?> face) {
        List<Class<?>> all = new java.util.ArrayList<>(List.of(face.getDeclaredClasses()));
        for (Class<?> inside : all) {
            DUE.holds(inside + " is static and not public", Modifier.isStatic(inside.getModifiers())
                && !Modifier.isPublic(inside.getModifiers()) && !Modifier.isProtected(inside.getModifiers()));
        }
        all.add(face);
        return all;
    }

    private static String parameters(Method m) {
        StringBuilder text = new StringBuilder("(");
        for (Class<?> type : m.getParameterTypes()) {
            text.append(text.length() > 1 ? "," : "").append(type.getName());
        }
        return text.append(')').toString();
    }

    private static void fields(Class<?> face) {
        TreeSet<String> seen = new TreeSet<>();
        for (Field f : face.getDeclaredFields()) {
            int modifiers = f.getModifiers();
            DUE.holds(f.getName() + " is final", Modifier.isFinal(modifiers));
            if (!Modifier.isPrivate(modifiers)) {
                DUE.same("modifiers of " + f.getName(), modifiers, Modifier.PUBLIC | Modifier.STATIC | Modifier.FINAL);
                DUE.holds(f.getName() + " is an int", f.getType() == int.class);
                seen.add(f.getName());
            }
        }
        DUE.holds("the public constants are " + seen, seen.equals(new TreeSet<>(
            List.of("INVALID_ARGUMENT", "NOT_POSSIBLE", "LIMIT_REACHED", "NOT_FOUND"))));
        DUE.same("INVALID_ARGUMENT", OrderedClauses.INVALID_ARGUMENT, -1000001);
        DUE.same("NOT_POSSIBLE", OrderedClauses.NOT_POSSIBLE, -1000002);
        DUE.same("LIMIT_REACHED", OrderedClauses.LIMIT_REACHED, -1000003);
        DUE.same("NOT_FOUND", OrderedClauses.NOT_FOUND, -1000004);
    }

    private static void constructors(Class<?> face) {
        Constructor<?>[] all = face.getDeclaredConstructors();
        DUE.same("constructors", all.length, 1);
        DUE.same("modifiers of the constructor", all[0].getModifiers(), Modifier.PUBLIC);
        DUE.same("parameters of the constructor", all[0].getParameterCount(), 0);
    }
}
