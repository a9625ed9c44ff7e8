import java.io.IOException;
import java.lang.reflect.Method;
import java.lang.reflect.Modifier;
import java.nio.file.Files;
import java.nio.file.Path;
import java.util.regex.Matcher;
import java.util.regex.Pattern;

/**
 * Writes ReadmeTest from the Java blocks of README.md, so that what the page shows is what is
 * tested: no second list of the same calls that could tell something else.
 */
public final class ReadmeCalls {
    private static final String NEW_OBJECT = "GuardOfSums x = new GuardOfSums();";
    private static final Pattern ANSWERED = Pattern.compile("(\\S.*);\\s+// (-?\\d+)(:.*)?");

    private final StringBuilder members = new StringBuilder();
    private final StringBuilder calls = new StringBuilder();
    private int sessions;
    private int wrong;

    public static void main(String[] args) throws IOException {
        String page = Files.readString(Path.of(args[0]));
        ReadmeCalls readme = new ReadmeCalls();
        readme.read(page);
        readme.lookForAllOf(GuardOfSums.class);
        if (readme.wrong != 0) {
            System.exit(1);
        }
        Files.writeString(Path.of(args[1]), readme.test());
    }

    private void read(String page) {
        boolean isJava = false;
        boolean isMember = false;
        for (String line : page.split("\n")) {
            if (line.startsWith("```")) {
                isJava = line.equals("```java");
                isMember = false;
            } else if (isJava) {
                isMember |= line.startsWith("static ");
                if (isMember) {
                    members.append("    ").append(line).append('\n');
                } else {
                    take(line);
                }
            }
        }
    }

    private void take(String line) {
        Matcher answered = ANSWERED.matcher(line);
        if (line.equals(NEW_OBJECT)) {
            if (sessions > 0) {
                calls.append("    }\n\n");
            }
            sessions++;
            calls.append("    private static void session").append(sessions).append("() {\n");
            calls.append("        ").append(line).append('\n');
        } else if (sessions > 0 && answered.matches()) {
            String call = answered.group(1);
            String shown = call.replace("\\", "\\\\").replace("\"", "\\\"");
            calls.append("        DUE.is(\"").append(shown).append("\", ").append(call).append(", ")
                .append(answered.group(2)).append("L);\n");
        } else if (!line.isEmpty()) {
            complain("no call with an answer: " + line);
        }
    }

    private void lookForAllOf(Class<?> face) {
        for (Method method : face.getDeclaredMethods()) {
            if (Modifier.isPublic(method.getModifiers()) && !calls.toString().contains(", x." + method.getName() + "(")) {
                complain("no call of " + method.getName() + "()");
            }
        }
    }

    private void complain(String what) {
        System.out.println("README.md: " + what);
        wrong++;
    }

    private String test() {
        StringBuilder test = new StringBuilder("public final class ReadmeTest {\n");
        test.append("    private static final Due DUE = new Due();\n\n");
        test.append("    public static void main(String[] args) {\n");
        for (int session = 1; session <= sessions; session++) {
            test.append("        session").append(session).append("();\n");
        }
        test.append("        DUE.close(\"ReadmeTest\");\n    }\n\n").append(members).append('\n');
        return test.append(calls).append("    }\n}\n").toString();
    }
}
