import java.io.IOException;
import java.lang.reflect.Field;
import java.lang.reflect.Method;
import java.lang.reflect.Modifier;
import java.nio.file.Files;
import java.nio.file.Path;
import java.util.regex.Matcher;
import java.util.regex.Pattern;

/** What README.md tells of the use of the class is so. */
public final class ReadmeTest {
    private static final Pattern EXAMPLE = Pattern.compile("```java\n(RevokeQuarantine m = .*?)```", Pattern.DOTALL);
    private static final Pattern BEGINNING = Pattern.compile("^RevokeQuarantine m = new RevokeQuarantine\\((.*?)\\);.*");
    private static final Pattern CALL = Pattern.compile("^m\\.(\\w+\\(.*?\\)); *// (-?\\w+)(:.*)?$");

    private static int wrong = 0;

    public static void main(String[] args) throws IOException {
        String readme = Files.readString(Path.of("README.md"));
        names(readme);
        Matcher example = EXAMPLE.matcher(readme);
        if (!example.find()) {
            tell("there is no example");
        } else {
            example(example.group(1));
        }
        System.out.println("the readme: " + wrong + " not as due");
        if (wrong != 0) {
            System.exit(1);
        }
    }

    private static void example(String text) {
        StringBuilder script = new StringBuilder();
        for (String line : text.split("\n")) {
            Matcher beginning = BEGINNING.matcher(line);
            Matcher call = CALL.matcher(line);
            if (beginning.matches()) {
                script.append("new(").append(beginning.group(1)).append(")\n");
            } else if (call.matches()) {
                script.append(call.group(1).replace("RevokeQuarantine.", "")).append(" = ").append(call.group(2)).append(" | *\n");
            } else {
                tell("not a call with its answer: " + line);
            }
        }
        Script run = new Script();
        run.run("README.md", script.toString());
        run.end();
    }

    private static void names(String readme) {
        for (Method method : RevokeQuarantine.class.getDeclaredMethods()) {
            if (Modifier.isPublic(method.getModifiers()) && !readme.contains("`" + method.getName() + "(")) {
                tell("not named: " + method.getName());
            }
        }
        for (Field field : RevokeQuarantine.class.getFields()) {
            if (!readme.contains("`" + field.getName() + "`")) {
                tell("not named: " + field.getName());
            }
        }
    }

    private static void tell(String what) {
        wrong++;
        System.out.println(what);
    }
}
