import java.io.IOException;
import java.lang.reflect.Method;
import java.nio.file.Files;
import java.nio.file.Path;
import java.util.regex.Matcher;
import java.util.regex.Pattern;

/** The example in README.md, call by call: each answers what stands beside it. */
public final class ReadmeTest {
    private static final Pattern CALL = Pattern.compile("x\\.(\\w+)\\((.*?)\\); +// (StablePartition\\.)?(-?\\w+).*");

    private static int wrong = 0;

    public static void main(String[] args) throws IOException, ReflectiveOperationException {
        StablePartition x = new StablePartition();
        int calls = 0;
        for (String line : Files.readAllLines(Path.of("README.md"))) {
            Matcher call = CALL.matcher(line);
            if (call.matches()) {
                calls++;
                due(line, answer(x, call.group(1), call.group(2)), wanted(call.group(4)));
            } else if (line.startsWith("x.")) {
                wrong++;
                System.out.println("no answer stands beside: " + line);
            }
        }
        if (calls == 0) {
            wrong++;
            System.out.println("README.md has no example");
        }
        System.out.println(wrong == 0 ? "all answers are as due" : wrong + " answers are not as due");
        if (wrong != 0) {
            System.exit(1);
        }
    }

    private static void due(String line, String got, String want) {
        if (!got.equals(want)) {
            wrong++;
            System.out.println("README.md: " + line + " answered " + got + ", due is " + want);
        }
    }

    private static String wanted(String text) {
        return switch (text) {
            case "BAD" -> "" + StablePartition.BAD;
            case "NONE" -> "" + StablePartition.NONE;
            default -> text;
        };
    }

    private static String answer(StablePartition x, String name, String list) throws ReflectiveOperationException {
        String[] texts = list.isEmpty() ? new String[0] : list.split(", ");
        Object[] values = new Object[texts.length];
        for (int i = 0; i < texts.length; i++) {
            values[i] = texts[i].matches("true|false") ? (Object) Boolean.valueOf(texts[i]) : Integer.valueOf(texts[i]);
        }
        return String.valueOf(methodNamed(name).invoke(x, values));
    }

    private static Method methodNamed(String name) throws NoSuchMethodException {
        for (Method method : StablePartition.class.getMethods()) {
            if (method.getName().equals(name)) {
                return method;
            }
        }
        throw new NoSuchMethodException(name);
    }
}
