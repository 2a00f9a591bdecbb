import java.io.IOException;
import java.lang.reflect.Field;
import java.lang.reflect.Member;
import java.lang.reflect.Method;
import java.lang.reflect.Modifier;
import java.nio.file.Files;
import java.nio.file.Path;
import java.util.Arrays;
import java.util.List;
import java.util.Set;
import java.util.TreeSet;
import java.util.stream.Collectors;
import java.util.stream.Stream;

/** The public face of the class, and those rules of the language that can be looked up in its file. */
public final class ShadowTailorFace {
    private static final List<String> FACE = List.of("int write(int)", "int wipe()", "int fault()", "int lay()",
        "int person(int,int)", "int where(int,int)", "int shadow(int,int,int)", "int covers(int,int)", "int stands(int,int)",
        "int wear(int,int)", "int alter(int,int)", "int walk(int,int,int)", "int undo()", "int first(int)", "int broken()",
        "int taken(int,int,int)", "int seen(int,int)", "int forget()", "int whose()", "int look(int)", "int cut(int)",
        "int fittings(int)", "int watchers(int,int)", "int poplar(int,int)", "int light(int)",
        "long clouds(int,int,int,int,int)", "int day(int,int)", "int keep()", "int back()", "int count(int)");
    private static final List<String> FORBIDDEN = List.of("throw", "try", "catch", "synchronized", "assert", "import", "package",
        "->", "::", "Random", "System.nanoTime", "System.currentTimeMillis", "Thread", "equals", "hashCode", "toString");

    private static int wrong;

    private static void check(boolean isSo, String what) {
        if (!isSo) {
            wrong++;
            System.out.println("not so: " + what);
        }
    }

    public static void main(String[] args) throws IOException {
        Class<?> face = ShadowTailor.class;
        check(Modifier.isPublic(face.getModifiers()) && Modifier.isFinal(face.getModifiers()), "public and final");
        Set<String> publicMethods = Arrays.stream(face.getDeclaredMethods())
            .filter(m -> Modifier.isPublic(m.getModifiers())).map(ShadowTailorFace::headOf)
            .collect(Collectors.toCollection(TreeSet::new));
        check(publicMethods.equals(new TreeSet<>(FACE)), "the public methods are those of the document: " + publicMethods);
        Set<String> publicFields = Arrays.stream(face.getDeclaredFields())
            .filter(f -> Modifier.isPublic(f.getModifiers())).map(Field::getName).collect(Collectors.toCollection(TreeSet::new));
        check(publicFields.equals(Set.of("BAD", "NO", "FULL", "NONE")), "the public constants are those of the document");
        check(face.getDeclaredConstructors().length == 1 && face.getConstructors().length == 1, "one constructor, public");
        membersOf(face).filter(m -> !m.isSynthetic()).forEach(m ->
            check(Modifier.isPublic(m.getModifiers()) || Modifier.isPrivate(m.getModifiers()), m.getName() + " is public or private"));
        Class<?>[] inside = face.getDeclaredClasses();
        check(inside.length <= 12, "twelve classes inside at most");
        Set<String> names = Arrays.stream(face.getMethods()).map(Method::getName).collect(Collectors.toSet());
        for (Class<?> own : inside) {
            check(Modifier.isStatic(own.getModifiers()) && !Modifier.isPublic(own.getModifiers()), own + " is static, not public");
            for (Method method : own.getDeclaredMethods()) {
                check(!names.contains(method.getName()), method + " bears the name of a public one");
            }
        }
        lookUpSource(Files.readAllLines(Path.of("src/main/java/ShadowTailor.java")));
        System.out.println(wrong == 0 ? "the face is as due" : wrong + " things are not as due");
        if (wrong != 0) {
            System.exit(1);
        }
    }

    private static Stream<Member> membersOf(Class<?> type) {
        return Stream.concat(Arrays.stream((Member[]) type.getDeclaredMethods()), Arrays.stream((Member[]) type.getDeclaredFields()));
    }

    private static String headOf(Method method) {
        String parameters = Arrays.stream(method.getParameterTypes()).map(Class::getName).collect(Collectors.joining(","));
        return method.getReturnType().getName() + " " + method.getName() + "(" + parameters + ")";
    }

    private static void lookUpSource(List<String> lines) {
        for (int n = 0; n < lines.size(); n++) {
            String line = lines.get(n);
            if (line.strip().startsWith("/**") || line.strip().startsWith("//")) {
                continue;
            }
            for (String word : FORBIDDEN) {
                boolean isWord = Character.isLetter(word.charAt(0));
                boolean isThere = isWord ? line.matches(".*\\b" + word.replace(".", "\\.") + "\\b.*") : line.contains(word);
                check(!isThere, "line " + (n + 1) + " is without " + word);
            }
        }
    }
}
