import java.lang.reflect.Constructor;
import java.lang.reflect.Field;
import java.lang.reflect.Method;
import java.lang.reflect.Modifier;
import java.util.Arrays;
import java.util.List;
import java.util.Set;
import java.util.TreeSet;
import java.util.stream.Collectors;

/** The public face is the document's, and there is no other: rule 1 of ../shared/LANGUAGE.md. */
public final class FaceTest {
    private static final Check CHECK = new Check();
    private static final List<String> FACE = List.of(
        "int set(int,int,int)", "int heir(int,int)", "int give(int,int,int)", "int told(int,int)", "int feed(int)",
        "int text()", "int force(int)", "int says(int,int,int)", "int common(int,int)", "int pays(int,int,int,int)",
        "int barred(int,int,int)", "int silent(int)", "int middle(int,int)", "int leave(int,int)",
        "int buy(int,int,int)", "int pawn(int,int,int)", "int rows(int,int,int,int)", "int film(int,int,int,int)",
        "int drawn(int)", "long chance(int,int,int)", "int image()", "int back()", "int count(int)",
        "int sheet(int,int,int)", "int cell(int,int,int)", "int copy(int,int,int,int,int)",
        "int heirs(int,int,int,int)", "int taken(int,int)");

    public static void main(String[] args) {
        constants();
        face();
        CHECK.close();
    }

    private static void constants() {
        CHECK.due("NONE", NumbersInherited.NONE, -1);
        CHECK.due("BAD", NumbersInherited.BAD, -2);
        CHECK.due("STATE", NumbersInherited.STATE, -3);
        CHECK.due("FULL", NumbersInherited.FULL, -4);
        CHECK.due("NO", NumbersInherited.NO, -4611686018427387904L);
    }

    private static void face() {
        Class<?> type = NumbersInherited.class;
        CHECK.isSo("public and final", Modifier.isPublic(type.getModifiers()) && Modifier.isFinal(type.getModifiers()));
        Set<String> seen = new TreeSet<>();
        for (Method method : type.getDeclaredMethods()) {
            if (!Modifier.isPrivate(method.getModifiers())) {
                CHECK.isSo(method + " is of the face", Modifier.isPublic(method.getModifiers()));
                seen.add(method.getReturnType() + " " + method.getName() + "("
                    + Arrays.stream(method.getParameterTypes()).map(Class::getName).collect(Collectors.joining(",")) + ")");
            }
        }
        CHECK.isSo("methods: " + seen, seen.equals(new TreeSet<>(FACE)));
        for (Field field : type.getDeclaredFields()) {
            boolean isFace = List.of("NONE", "BAD", "STATE", "FULL", "NO").contains(field.getName());
            CHECK.isSo(field + " is private or of the face", isFace ? Modifier.isPublic(field.getModifiers())
                : Modifier.isPrivate(field.getModifiers()));
        }
        CHECK.due("constructors", type.getDeclaredConstructors().length, 1);
        for (Constructor<?> constructor : type.getDeclaredConstructors()) {
            CHECK.isSo("a public constructor without parameters", Modifier.isPublic(constructor.getModifiers())
                && constructor.getParameterCount() == 0);
        }
        privateNames(type, seen);
    }

    private static void privateNames(Class<?> type, Set<String> face) {
        Set<String> names = face.stream().map(f -> f.replaceAll("^\\S+ |\\(.*", "")).collect(Collectors.toSet());
        for (Method method : type.getDeclaredMethods()) {
            CHECK.isSo(method + " bears a name of its own",
                Modifier.isPublic(method.getModifiers()) || !names.contains(method.getName()));
        }
        for (Class<?> inside : type.getDeclaredClasses()) {
            CHECK.isSo(inside + " is not of the face", !Modifier.isPublic(inside.getModifiers())
                && !Modifier.isProtected(inside.getModifiers()));
            privateNames(inside, face);
        }
    }
}
