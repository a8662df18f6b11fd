import java.lang.reflect.Constructor;
import java.lang.reflect.Field;
import java.lang.reflect.Method;
import java.lang.reflect.Modifier;
import java.util.ArrayList;
import java.util.HashSet;
import java.util.List;
import java.util.Set;
import java.util.TreeSet;

/** The class's face is the document's, and the rules of LANGUAGE.md that a class file shows are kept. */
public final class FaceTest {
    private static final String[] FACE = {
        "boolean boot()",
        "boolean failStep(int)",
        "boolean failWrite(int)",
        "boolean load(int,int)",
        "boolean sample(int)",
        "boolean start(int)",
        "int flips()",
        "int fram(int)",
        "int memory(int)",
        "int radio(int)",
        "int register(int)",
        "int retired()",
        "int run(int)",
        "int section()",
        "int state()",
        "int waiting()",
        "int writes()",
    };

    public static void main(String[] args) {
        Class<?> face = BrownoutCore.class;
        Due.yes("public", Modifier.isPublic(face.getModifiers()));
        Due.yes("final", Modifier.isFinal(face.getModifiers()));
        Due.yes("no package", face.getPackageName().isEmpty());
        methodsAreThoseOfTheDocument(face);
        constructorTakesNothing(face);
        nothingElseIsSeen(face);
        for (Class<?> inside : withInside(face)) {
            staticFieldsAreFinal(inside);
            sizesAreKept(inside);
            if (inside != face) {
                insideIsStatic(inside);
                namesOfTheFaceAreNotUsed(inside);
            }
        }
        Due.yes("at most twelve classes", withInside(face).size() <= 12);
        Due.end();
    }

    private static void methodsAreThoseOfTheDocument(Class<?> face) {
        Set<String> seen = new TreeSet<>();
        for (Method m : face.getDeclaredMethods()) {
            if (Modifier.isPublic(m.getModifiers())) {
                Due.no(m + " is static", Modifier.isStatic(m.getModifiers()));
                seen.add(m.getReturnType() + " " + m.getName() + "(" + parameters(m.getParameterTypes()) + ")");
            }
        }
        Due.text("the public methods", seen.toString(), List.of(FACE).toString());
    }

    private static void constructorTakesNothing(Class<?> face) {
        Constructor<?>[] all = face.getDeclaredConstructors();
        Due.same("constructors", all.length, 1);
        Due.yes("its constructor is public", Modifier.isPublic(all[0].getModifiers()));
        Due.same("its parameters", all[0].getParameterCount(), 0);
    }

    private static void nothingElseIsSeen(Class<?> face) {
        for (Field f : face.getDeclaredFields()) {
            Due.yes(f + " is private", Modifier.isPrivate(f.getModifiers()));
        }
        Set<String> publicNames = publicNames();
        for (Method m : face.getDeclaredMethods()) {
            if (!Modifier.isPublic(m.getModifiers())) {
                Due.yes(m + " is private", Modifier.isPrivate(m.getModifiers()));
                Due.no(m + " bears a public name", publicNames.contains(m.getName()));
            }
        }
    }

    private static void insideIsStatic(Class<?> inside) {
        int modifiers = inside.getModifiers();
        Due.yes(inside + " is static", Modifier.isStatic(modifiers));
        Due.no(inside + " is public or protected", Modifier.isPublic(modifiers) || Modifier.isProtected(modifiers));
    }

    private static void namesOfTheFaceAreNotUsed(Class<?> inside) {
        Set<String> publicNames = publicNames();
        for (Method m : inside.getDeclaredMethods()) {
            Due.no(m + " bears a public name", publicNames.contains(m.getName()));
        }
    }

    private static void staticFieldsAreFinal(Class<?> c) {
        for (Field f : c.getDeclaredFields()) {
            if (Modifier.isStatic(f.getModifiers())) {
                Due.yes(f + " is final", Modifier.isFinal(f.getModifiers()));
            }
        }
    }

    private static void sizesAreKept(Class<?> c) {
        int fields = 0;
        for (Field f : c.getDeclaredFields()) {
            fields += Modifier.isStatic(f.getModifiers()) ? 0 : 1;
        }
        Due.yes(c + " has at most twenty fields", fields <= 20);
        for (Method m : c.getDeclaredMethods()) {
            Due.yes(m + " takes at most seven parameters", m.getParameterCount() <= 7);
        }
    }

    private static List<Class<?>> withInside(Class<?> face) {
        List<Class<?>> all = new ArrayList<>();
        all.add(face);
        all.addAll(List.of(face.getDeclaredClasses()));
        return all;
    }

    private static Set<String> publicNames() {
        Set<String> names = new HashSet<>();
        for (String line : FACE) {
            names.add(line.substring(line.indexOf(' ') + 1, line.indexOf('(')));
        }
        return names;
    }

    private static String parameters(Class<?>[] types) {
        StringBuilder joined = new StringBuilder();
        for (Class<?> type : types) {
            joined.append(joined.length() == 0 ? "" : ",").append(type.getName());
        }
        return joined.toString();
    }
}
