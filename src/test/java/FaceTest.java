import java.lang.reflect.Constructor;
import java.lang.reflect.Field;
import java.lang.reflect.Method;
import java.lang.reflect.Modifier;
import java.util.Set;
import java.util.TreeSet;

/** The public face is the document's, and nothing else can be seen from outside. */
public final class FaceTest {
    private static final Set<String> METHODS = Set.of(
        "int word(int,int,int,int,int,int)", "boolean cut(int,int)", "boolean fields(int,int)",
        "int rule(int,int,int,int,int)", "boolean reset()", "int stage()", "boolean withdraw()",
        "boolean changed(int)", "int blocker(int)", "int attempt(int)", "int version()", "int spawn(int,int)",
        "int step(int,int)", "int send(int,int)", "int state(int)", "int result(int)", "int frames(int)",
        "int frame(int,int,int)", "int global(int)", "int typeOf(int)", "int field(int,int)", "int heap()",
        "int collect()");

    public static void main(String[] args) {
        Due due = new Due();
        Class<?> face = SwitchedModules.class;
        due.is("public", Modifier.isPublic(face.getModifiers()), true);
        due.is("final", Modifier.isFinal(face.getModifiers()), true);
        methods(due, face);
        fieldsAndConstructors(due, face);
        for (Class<?> inside : face.getDeclaredClasses()) {
            boolean hidden = !Modifier.isPublic(inside.getModifiers()) && !Modifier.isProtected(inside.getModifiers());
            due.is(inside + " is hidden and static", hidden && Modifier.isStatic(inside.getModifiers()), true);
        }
        due.end();
    }

    private static void methods(Due due, Class<?> face) {
        Set<String> seen = new TreeSet<>();
        Set<String> names = new TreeSet<>();
        for (Method m : face.getDeclaredMethods()) {
            if (!Modifier.isPrivate(m.getModifiers())) {
                seen.add(signature(m));
                names.add(m.getName());
            }
        }
        due.is("methods that can be seen: " + seen, seen.equals(new TreeSet<>(METHODS)), true);
        for (Method m : face.getDeclaredMethods()) {
            if (Modifier.isPrivate(m.getModifiers())) {
                due.is("private " + m.getName() + " bears a public name", names.contains(m.getName()), false);
            }
        }
    }

    private static String signature(Method m) {
        StringBuilder text = new StringBuilder();
        text.append(m.getReturnType().getName()).append(' ').append(m.getName()).append('(');
        for (int i = 0; i < m.getParameterCount(); i++) {
            text.append(i == 0 ? "" : ",").append(m.getParameterTypes()[i].getName());
        }
        return text.append(')').toString();
    }

    private static void fieldsAndConstructors(Due due, Class<?> face) {
        Set<String> seen = new TreeSet<>();
        for (Field f : face.getDeclaredFields()) {
            if (!Modifier.isPrivate(f.getModifiers())) {
                seen.add(f.getName());
            }
            boolean state = Modifier.isStatic(f.getModifiers()) && !Modifier.isFinal(f.getModifiers());
            due.is("static state " + f.getName(), state, false);
        }
        due.is("constants that can be seen: " + seen, seen.equals(Set.of("BAD", "NO", "FULL")), true);
        due.is("BAD", SwitchedModules.BAD, -1);
        due.is("NO", SwitchedModules.NO, -2);
        due.is("FULL", SwitchedModules.FULL, -3);
        Constructor<?>[] constructors = face.getDeclaredConstructors();
        due.is("constructors", constructors.length, 1);
        due.is("its parameters", constructors[0].getParameterCount(), 0);
        due.is("it is public", Modifier.isPublic(constructors[0].getModifiers()), true);
    }
}
