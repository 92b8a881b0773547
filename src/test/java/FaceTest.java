import java.io.IOException;
import java.lang.reflect.Constructor;
import java.lang.reflect.Field;
import java.lang.reflect.Method;
import java.lang.reflect.Modifier;
import java.nio.file.Files;
import java.nio.file.Path;
import java.util.Arrays;
import java.util.List;
import java.util.Set;
import java.util.TreeSet;
import java.util.regex.Matcher;
import java.util.regex.Pattern;
import java.util.stream.Collectors;

/** The public face is the document's, and the program keeps to what of LANGUAGE.md can be seen from outside. */
public final class FaceTest {
    private static final Check CHECK = new Check();
    private static final Path MAIN = Path.of("src/main/java/NumbersInherited.java");
    private static final List<String> FACE = List.of(
        "int set(int,int,int)", "int heir(int,int)", "int give(int,int,int)", "int told(int,int)", "int feed(int)",
        "int text()", "int force(int)", "int says(int,int,int)", "int common(int,int)", "int pays(int,int,int,int)",
        "int barred(int,int,int)", "int silent(int)", "int middle(int,int)", "int leave(int,int)",
        "int buy(int,int,int)", "int pawn(int,int,int)", "int rows(int,int,int,int)", "int film(int,int,int,int)",
        "int drawn(int)", "long chance(int,int,int)", "int image()", "int back()", "int count(int)",
        "int sheet(int,int,int)", "int cell(int,int,int)", "int copy(int,int,int,int,int)",
        "int heirs(int,int,int,int)", "int taken(int,int)");

    public static void main(String[] args) throws IOException {
        constants();
        face();
        language();
        CHECK.close();
    }

    private static void constants() {
        CHECK.due("NONE", NumbersInherited.NONE, -1);
        CHECK.due("BAD", NumbersInherited.BAD, -2);
        CHECK.due("STATE", NumbersInherited.STATE, -3);
        CHECK.due("FULL", NumbersInherited.FULL, -4);
        CHECK.due("NO", NumbersInherited.NO, -4611686018427387904L);
    }

    private static void face() {
        Class<?> type = NumbersInherited.class;
        CHECK.isSo("public and final", Modifier.isPublic(type.getModifiers()) && Modifier.isFinal(type.getModifiers()));
        Set<String> seen = new TreeSet<>();
        for (Method method : type.getDeclaredMethods()) {
            if (!Modifier.isPrivate(method.getModifiers())) {
                CHECK.isSo(method + " is of the face", Modifier.isPublic(method.getModifiers()));
                seen.add(method.getReturnType() + " " + method.getName() + "("
                    + Arrays.stream(method.getParameterTypes()).map(Class::getName).collect(Collectors.joining(",")) + ")");
            }
        }
        CHECK.isSo("methods: " + seen, seen.equals(new TreeSet<>(FACE)));
        for (Field field : type.getDeclaredFields()) {
            boolean isFace = List.of("NONE", "BAD", "STATE", "FULL", "NO").contains(field.getName());
            CHECK.isSo(field + " is private or of the face", isFace ? Modifier.isPublic(field.getModifiers())
                : Modifier.isPrivate(field.getModifiers()));
        }
        for (Constructor<?> constructor : type.getDeclaredConstructors()) {
            CHECK.isSo("one constructor", constructor.getParameterCount() == 0);
        }
        privateNames(type, seen);
    }

    private static void privateNames(Class<?> type, Set<String> face) {
        Set<String> names = face.stream().map(f -> f.replaceAll("^\\S+ |\\(.*", "")).collect(Collectors.toSet());
        for (Method method : type.getDeclaredMethods()) {
            CHECK.isSo(method + " bears a name of its own",
                Modifier.isPublic(method.getModifiers()) || !names.contains(method.getName()));
            CHECK.isSo(method + " takes seven at most", method.getParameterCount() <= 7);
        }
        for (Field field : type.getDeclaredFields()) {
            boolean isStatic = Modifier.isStatic(field.getModifiers());
            CHECK.isSo(field + ": static ones are final", !isStatic || Modifier.isFinal(field.getModifiers()));
        }
        CHECK.isSo(type + " has twenty fields at most", Arrays.stream(type.getDeclaredFields())
            .filter(f -> !Modifier.isStatic(f.getModifiers())).count() <= 20);
        CHECK.isSo(type + " has twelve classes at most", type.getDeclaredClasses().length <= 11);
        for (Class<?> inside : type.getDeclaredClasses()) {
            CHECK.isSo(inside + " is static", Modifier.isStatic(inside.getModifiers()));
            privateNames(inside, face);
        }
    }

    private static void language() throws IOException {
        String source = Files.readString(MAIN);
        CHECK.isSo("signs 1 to 127", source.chars().allMatch(c -> c >= 1 && c <= 127));
        String code = source.replaceAll("(?s)/\\*.*?\\*/", "").replaceAll("//[^\n]*", "");
        Matcher matcher = Pattern.compile("\\b(throw|throws|try|catch|finally|synchronized|assert|import|package|var|"
            + "native|transient|volatile|hashCode|toString|equals|System\\.(?!arraycopy)\\w+)\\b|->|::|@").matcher(code);
        while (matcher.find()) {
            CHECK.isSo("'" + matcher.group() + "' in the program", false);
        }
        int began = 0;
        String[] lines = source.split("\n");
        for (int i = 0; i < lines.length; i++) {
            if (lines[i].matches("\\s+(public |private |static |final )*\\w+(\\[\\])* ?\\w+\\(.*\\) \\{")) {
                began = i;
            } else if (lines[i].matches("( {4}| {8})}")) {
                CHECK.isSo("a method of sixty lines at most ends at " + (i + 1),
                    i - began <= 60 || lines[i].startsWith("    }"));
            }
        }
    }
}
