import java.io.IOException;
import java.lang.reflect.Constructor;
import java.lang.reflect.Field;
import java.lang.reflect.Method;
import java.lang.reflect.Modifier;
import java.nio.file.Files;
import java.nio.file.Path;
import java.util.Arrays;
import java.util.List;
import java.util.TreeSet;
import java.util.stream.Collectors;

/** The public face by reflection, and those rules of LANGUAGE.md that can be read off the source's words. */
public final class FaceTest {
    private static final String[] FACE = {
        "int field(int) IllegalArgumentException IllegalStateException",
        "int oneOf(int int int) IndexOutOfBoundsException IllegalArgumentException IllegalStateException",
        "int bound(int int int boolean) IndexOutOfBoundsException IllegalArgumentException IllegalStateException",
        "int more(int int int int) IndexOutOfBoundsException IllegalArgumentException IllegalStateException",
        "int unlike(int int int) IndexOutOfBoundsException IllegalArgumentException IllegalStateException",
        "int preset(int int int int) IndexOutOfBoundsException IllegalArgumentException IllegalStateException",
        "boolean approve(int boolean) IndexOutOfBoundsException",
        "boolean withdraw(int boolean) IndexOutOfBoundsException",
        "int weight(int int) IndexOutOfBoundsException IllegalArgumentException",
        "int commit() IllegalStateException",
        "int wave(int int) IndexOutOfBoundsException IllegalArgumentException",
        "int patch(int int int) IndexOutOfBoundsException IllegalArgumentException",
        "int absorb(int int) IndexOutOfBoundsException IllegalStateException",
        "int knock()",
        "int ofField(int int) IndexOutOfBoundsException IllegalArgumentException",
        "int ofLine(int int) IndexOutOfBoundsException IllegalArgumentException",
        "int ofMachine(int int) IndexOutOfBoundsException IllegalArgumentException",
        "int has(int int) IndexOutOfBoundsException",
        "int ofCommit(int int) IndexOutOfBoundsException",
        "int house(int) IllegalArgumentException",
        "String value(int) IndexOutOfBoundsException",
        "int reason(int) IndexOutOfBoundsException",
        "int met(int int) IndexOutOfBoundsException IllegalArgumentException",
        "int choices(int int) IndexOutOfBoundsException IllegalArgumentException",
        "boolean isNarrower(int int) IndexOutOfBoundsException",
        "boolean isSound()",
        "long digest()"
    };
    private static final String[] NOT_IN_SOURCE = {
        "catch", "finally", "synchronized", "assert ", "instanceof", "->", "::", "package ", "static {",
        "Random", "System.n", "System.c", "Thread", "getMessage", "Exact"
    };

    public static void main(String[] args) throws IOException {
        Check c = new Check("FaceTest");
        int ofClass = Meetjoin.class.getModifiers();
        c.due("public and final", Modifier.isPublic(ofClass) && Modifier.isFinal(ofClass), true);
        Constructor<?>[] made = Meetjoin.class.getDeclaredConstructors();
        c.due("constructors", made.length, 1);
        c.due("its parameters", made[0].getParameterCount(), 0);
        c.due("it is public", Modifier.isPublic(made[0].getModifiers()), true);
        TreeSet<String> face = new TreeSet<>();
        TreeSet<String> names = new TreeSet<>();
        for (Method method : Meetjoin.class.getDeclaredMethods()) {
            if (!Modifier.isPrivate(method.getModifiers())) {
                face.add(told(method));
                names.add(method.getName());
            }
        }
        c.due("the face", face, new TreeSet<>(List.of(FACE)));
        fields(c);
        privateNames(c, names);
        source(c);
        c.end();
    }

    private static String names(Class<?>[] types) {
        return Arrays.stream(types).map(Class::getSimpleName).collect(Collectors.joining(" "));
    }

    private static String told(Method m) {
        return (names(new Class<?>[] {m.getReturnType()}) + " " + m.getName() + "(" + names(m.getParameterTypes()) + ") "
            + names(m.getExceptionTypes())).trim();
    }

    private static void fields(Check c) {
        for (Class<?> one : Meetjoin.class.getDeclaredClasses()) {
            c.due(one.getSimpleName() + " is static", Modifier.isStatic(one.getModifiers()), true);
            c.due(one.getSimpleName() + " is not public", Modifier.isPublic(one.getModifiers()), false);
            c.due(one.getSimpleName() + " has some twenty fields", one.getDeclaredFields().length <= 20, true);
        }
        for (Field field : Meetjoin.class.getDeclaredFields()) {
            int of = field.getModifiers();
            c.due(field.getName() + " is private", Modifier.isPrivate(of), true);
            c.due(field.getName() + ", if static, is final", !Modifier.isStatic(of) || Modifier.isFinal(of), true);
        }
    }

    private static void privateNames(Check c, TreeSet<String> face) {
        for (Method method : Meetjoin.class.getDeclaredMethods()) {
            if (Modifier.isPrivate(method.getModifiers())) {
                c.due(method.getName() + " is a name of the face", face.contains(method.getName()), false);
            }
        }
        for (Class<?> one : Meetjoin.class.getDeclaredClasses()) {
            for (Method method : one.getDeclaredMethods()) {
                c.due(method.getName() + " is a name of the face", face.contains(method.getName()), false);
            }
        }
    }

    private static void source(Check c) throws IOException {
        String source = Files.readString(Path.of("src/main/java/Meetjoin.java"));
        for (String word : NOT_IN_SOURCE) {
            c.due("'" + word + "' in the source", source.contains(word), false);
        }
        c.due("signs of 1 to 127 alone", source.chars().allMatch(sign -> sign > 0 && sign < 128), true);
        for (String line : source.split("\n")) {
            if (line.startsWith("import ")) {
                c.due("import", line, "import java.util.Arrays;");
            }
        }
    }
}
