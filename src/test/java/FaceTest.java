import java.lang.reflect.Constructor;
import java.lang.reflect.Field;
import java.lang.reflect.Method;
import java.lang.reflect.Modifier;
import java.util.Arrays;
import java.util.Set;
import java.util.TreeSet;

/** The class has the document's face, and nothing else of it can be seen from outside. */
public final class FaceTest {
    private static final Set<String> FACE = new TreeSet<>(Set.of(
        "boolean type(char)", "int end()", "boolean score(int,int,int)", "boolean gaps(int,int)",
        "void settings(boolean,boolean,boolean)", "int words()", "int pair(int,int)",
        "int distance(int,int)", "int align()", "int columns()", "char at(int,int)", "char mark(int)",
        "int child(int,int)", "int worth(int)", "int weight(int)", "int total()", "boolean refine(int)",
        "int polish()"));
    private static int wrong = 0;

    public static void main(String[] args) {
        Class<?> face = GuidedAligner.class;
        expect("the class is public and final",
            Modifier.isPublic(face.getModifiers()) && Modifier.isFinal(face.getModifiers()));
        Constructor<?>[] constructors = face.getDeclaredConstructors();
        expect("one public constructor without parameters", constructors.length == 1
            && Modifier.isPublic(constructors[0].getModifiers()) && constructors[0].getParameterCount() == 0);
        checkMethods(face);
        checkFields(face);
        for (Class<?> inside : face.getDeclaredClasses()) {
            int how = inside.getModifiers();
            expect(inside + " is static and not public or protected",
                Modifier.isStatic(how) && !Modifier.isPublic(how) && !Modifier.isProtected(how));
            checkFields(inside);
        }
        System.out.println(wrong == 0 ? "the face is as due" : wrong + " faults");
        if (wrong != 0) {
            System.exit(1);
        }
    }

    private static void checkMethods(Class<?> face) {
        Set<String> found = new TreeSet<>();
        Set<String> publicNames = new TreeSet<>();
        for (Method method : face.getDeclaredMethods()) {
            if (Modifier.isPublic(method.getModifiers())) {
                found.add(describe(method));
                publicNames.add(method.getName());
            }
        }
        expect("the public methods are the document's: " + found, found.equals(FACE));
        for (Method method : face.getDeclaredMethods()) {
            int how = method.getModifiers();
            expect(method + " is public or private", Modifier.isPublic(how) || Modifier.isPrivate(how));
            expect(method + " has a name of its own",
                Modifier.isPublic(how) || !publicNames.contains(method.getName()));
        }
    }

    private static void checkFields(Class<?> owner) {
        for (Field field : owner.getDeclaredFields()) {
            int how = field.getModifiers();
            expect(field + " is private", owner != GuidedAligner.class || Modifier.isPrivate(how));
            expect(field + " is final if static", !Modifier.isStatic(how) || Modifier.isFinal(how));
        }
    }

    private static String describe(Method method) {
        String parameters = String.join(",",
            Arrays.stream(method.getParameterTypes()).map(Class::getName).toList());
        return method.getReturnType().getName() + " " + method.getName() + "(" + parameters + ")";
    }

    private static void expect(String what, boolean holds) {
        if (!holds) {
            wrong++;
            System.out.println("not so: " + what);
        }
    }
}
