import java.io.IOException;
import java.lang.reflect.InvocationTargetException;
import java.lang.reflect.Method;
import java.nio.file.Files;
import java.nio.file.Path;
import java.util.ArrayList;
import java.util.List;
import java.util.regex.Matcher;
import java.util.regex.Pattern;

/** Makes the calls of README.md one after another, and compares what they answer with what stands behind them. */
public final class ReadmeTest {
    private static final Pattern LINE = Pattern.compile("(.+); *(?://(.*))?");
    private static final Pattern CALL = Pattern.compile("(?:(Double|Float)\\.\\w+\\()?(?:vault\\.)?(\\w+)\\(([^)\"]*)(\".*\")?\\)\\)?");
    private static final Pattern ANSWER = Pattern.compile(" (throws \\w+|\".*\"|[\\w.-]+)(: .*)?");

    private static SecretVault vault;
    private static int calls;
    private static int wrong;

    public static void main(String[] args) throws Exception {
        String own = Files.readString(Path.of("src/test/java/ReadmeTest.java")).replaceAll("\\s+", " ");
        for (String block : blocks(Files.readString(Path.of("README.md")))) {
            if (!block.startsWith("static ")) {
                for (String line : block.lines().toList()) {
                    run(line);
                }
                continue;
            }
            for (String function : block.split("\n\n")) {
                if (!own.contains("private " + function.replaceAll("\\s+", " ").strip())) {
                    fault(function + " is not the function below");
                }
            }
        }
        if (calls < 50) {
            fault("too few calls were seen: " + calls);
        }
        System.out.println(wrong == 0 ? calls + " calls answer what the README says" : wrong + " calls do not");
        if (wrong != 0) {
            System.exit(1);
        }
    }

    private static void fault(String what) {
        wrong++;
        System.out.println("README.md: " + what);
    }

    private static List<String> blocks(String readme) throws IOException {
        List<String> blocks = new ArrayList<>();
        Matcher m = Pattern.compile("```java\n(.*?)```", Pattern.DOTALL).matcher(readme);
        while (m.find()) {
            blocks.add(m.group(1));
        }
        return blocks;
    }

    private static void run(String line) throws Exception {
        Matcher m = LINE.matcher(line);
        if (!m.matches()) {
            fault("not understood: " + line);
            return;
        }
        if (m.group(1).equals("SecretVault vault = new SecretVault()")) {
            vault = new SecretVault();
            return;
        }
        String got = answer(m.group(1));
        calls++;
        Matcher want = ANSWER.matcher(m.group(2) == null ? "" : m.group(2));
        boolean said = want.matches();
        if (said ? !got.equals(want.group(1)) : !got.equals("nothing")) {
            fault(line + " but it is " + got);
        }
    }

    private static String answer(String expression) throws Exception {
        Matcher m = CALL.matcher(expression);
        if (!m.matches()) {
            return "not understood";
        }
        String text = m.group(4) == null ? "" : m.group(4).substring(1, m.group(4).length() - 1);
        String[] arguments = m.group(3).split(" *, *");
        switch (m.group(2)) {
            case "type":
                type(vault, text);
                return "nothing";
            case "policyOf":
                return '"' + policyOf(vault, number(arguments[1])) + '"';
            case "shareOf":
                return '"' + shareOf(vault, number(arguments[1]), number(arguments[2])) + '"';
            default:
                Object answer = call(m.group(2), m.group(3).isEmpty() ? new String[0] : arguments);
                return m.group(1) == null ? answer.toString()
                    : m.group(1).equals("Double") ? String.valueOf(Double.longBitsToDouble((Long) answer))
                    : String.valueOf(Float.intBitsToFloat((Integer) answer));
        }
    }

    private static Object call(String name, String[] arguments) throws Exception {
        for (Method method : SecretVault.class.getMethods()) {
            if (method.getName().equals(name) && method.getParameterCount() == arguments.length) {
                Object[] values = new Object[arguments.length];
                for (int i = 0; i < values.length; i++) {
                    boolean truth = method.getParameterTypes()[i] == boolean.class;
                    values[i] = truth ? (Object) arguments[i].equals("true") : (Object) number(arguments[i]);
                }
                try {
                    return method.invoke(vault, values);
                } catch (InvocationTargetException e) {
                    return "throws " + e.getCause().getClass().getSimpleName();
                }
            }
        }
        return "no such method";
    }

    /** A number, or a sum of numbers. */
    private static int number(String text) {
        int sum = 0;
        for (String part : text.split(" *\\+ *")) {
            sum += Integer.parseInt(part);
        }
        return sum;
    }

    // ---- the functions of README.md

    private static void type(SecretVault vault, String text) {
        for (char sign : text.toCharArray()) {
            vault.append(sign);
        }
    }

    private static String policyOf(SecretVault vault, int slot) {
        StringBuilder text = new StringBuilder();
        for (int i = 0; i < vault.policyText(slot, -1); i++) {
            text.append((char) vault.policyText(slot, i));
        }
        return text.toString();
    }

    private static String shareOf(SecretVault vault, int slot, int place) {
        StringBuilder text = new StringBuilder();
        for (int i = 0; i < vault.shareText(slot, place, -1); i++) {
            text.append((char) vault.shareText(slot, place, i));
        }
        return text.toString();
    }
}
