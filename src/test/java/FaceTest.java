import java.io.IOException;
import java.lang.reflect.Constructor;
import java.lang.reflect.Field;
import java.lang.reflect.Method;
import java.lang.reflect.Modifier;
import java.nio.file.Files;
import java.nio.file.Path;
import java.util.Arrays;
import java.util.Set;
import java.util.TreeSet;
import java.util.stream.Collectors;

/** The public face, and those rules of LANGUAGE.md that can be looked at from outside. */
public final class FaceTest {
    private static final Due DUE = new Due();
    private static final String[] FACE = {
        "int letter(int)", "int guard()", "int person(int, int)", "int variable(int, int)",
        "int tells(int, int)", "int changes(int, int)", "int bounds(int, int, int)", "int rule(int)",
        "int limit(int)", "int ask(int, int, int)", "int would(int, int, int)", "int sums(int)",
        "int ledger(int, int)", "long answer(int)", "long reduced(int, int, int)", "int pivots()",
        "int attack(int, int)", "int known()", "int learns(int, int, int, int)",
        "int order(int, int, int, int)", "int two(int, int)", "int cheapest(int)", "long mean(int)",
        "long share(int)", "int which(int)", "int row(int)", "int judge()", "int clear()",
        "int lots(int, int, int)", "int image()", "int on()", "int count(int)"};

    public static void main(String[] args) throws IOException {
        members();
        insides();
        source(Files.readString(Path.of(args.length > 0 ? args[0] : "src/main/java/GuardOfSums.java")));
        DUE.close("FaceTest");
    }

    private static void members() {
        Class<?> face = GuardOfSums.class;
        DUE.holds("public and final", Modifier.isPublic(face.getModifiers()) && Modifier.isFinal(face.getModifiers()));
        DUE.is("constructors", face.getDeclaredConstructors().length, 1);
        for (Constructor<?> made : face.getDeclaredConstructors()) {
            DUE.holds("public constructor", Modifier.isPublic(made.getModifiers()) && made.getParameterCount() == 0);
        }
        Set<String> found = new TreeSet<>();
        Set<String> names = new TreeSet<>();
        for (Method method : face.getDeclaredMethods()) {
            if (Modifier.isPublic(method.getModifiers())) {
                found.add(method.getReturnType() + " " + method.getName() + Arrays.stream(method.getParameterTypes())
                    .map(Class::toString).collect(Collectors.joining(", ", "(", ")")));
                names.add(method.getName());
                DUE.holds(method + " is no static one", !Modifier.isStatic(method.getModifiers()));
            }
        }
        DUE.holds("the face is " + found, found.equals(new TreeSet<>(Arrays.asList(FACE))));
        for (Method method : face.getDeclaredMethods()) {
            if (!Modifier.isPublic(method.getModifiers())) {
                DUE.holds(method + " is private", Modifier.isPrivate(method.getModifiers()));
                DUE.holds(method + " has a name of its own", !names.contains(method.getName()));
            }
        }
        for (Field field : face.getDeclaredFields()) {
            DUE.holds(field + " is private", Modifier.isPrivate(field.getModifiers()));
        }
    }

    private static void insides() {
        Class<?>[] inside = GuardOfSums.class.getDeclaredClasses();
        DUE.holds("some twelve classes", inside.length < 12);
        for (Class<?> one : inside) {
            DUE.holds(one + " is static", Modifier.isStatic(one.getModifiers()));
            DUE.holds(one + " is not public", !Modifier.isPublic(one.getModifiers()));
            look(one);
        }
        look(GuardOfSums.class);
    }

    private static void look(Class<?> one) {
        int fields = 0;
        for (Field field : one.getDeclaredFields()) {
            if (Modifier.isStatic(field.getModifiers())) {
                DUE.holds(field + " is final", Modifier.isFinal(field.getModifiers()));
            } else {
                fields++;
            }
        }
        DUE.holds(one + " has some twenty fields", fields <= 20);
        for (Method method : one.getDeclaredMethods()) {
            DUE.holds(method + " takes seven at most", method.getParameterCount() <= 7);
        }
    }

    private static void source(String source) {
        String[] ruledOut = {"import ", "package ", "->", "::", "catch", "throw", "finally", "synchronized",
            "assert ", "instanceof", "double", "float", "Exact", "static {", "|= is", "java."};
        for (String one : ruledOut) {
            DUE.holds("no " + one, !source.contains(one));
        }
        DUE.holds("plain signs", source.chars().allMatch(c -> c < 128));
    }
}
