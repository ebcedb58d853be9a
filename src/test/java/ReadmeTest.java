import java.io.IOException;
import java.lang.reflect.Method;
import java.lang.reflect.Modifier;
import java.nio.file.Files;
import java.nio.file.Path;
import java.util.List;
import java.util.regex.Matcher;
import java.util.regex.Pattern;

/** The examples of README.md: they answer what it says. */
public final class ReadmeTest {
    private static final Pattern CALL = Pattern.compile("house\\.(\\w+)\\((.*?)\\);\\s*// (.*)");
    private static final Pattern ANSWERED = Pattern.compile("(\\w+)\\((.*?)\\) (\\S+)");

    public static void main(String[] args) throws IOException, ReflectiveOperationException {
        List<String> lines = Files.readAllLines(Path.of("README.md"));
        makeCalls(block(lines, "```java"));
        runTexts(block(lines, "```text"));
        namesTheFace(String.join("\n", lines));
        Tester.finish();
    }

    /** The lines of the first block that begins so. */
    private static List<String> block(List<String> lines, String fence) {
        int from = lines.indexOf(fence) + 1;
        int length = lines.subList(from, lines.size()).indexOf("```");
        Tester.same("README has a block " + fence, from > 0 && length > 0, true);
        return lines.subList(from, from + Math.max(0, length));
    }

    /** Each line is a call; behind the // of one that answers stands the answer first. */
    private static void makeCalls(List<String> lines) throws ReflectiveOperationException {
        ProofHouse house = new ProofHouse();
        for (String line : lines.subList(1, lines.size())) {
            Matcher call = CALL.matcher(line);
            Tester.same(line + " is a call", call.matches(), true);
            Object got = called(house, call.group(1), call.group(2));
            if (got != null) {
                Tester.same(line, got.toString(), call.group(3).replaceFirst("^(-?\\w+).*", "$1"));
            }
        }
    }

    private static Object called(ProofHouse house, String name, String list) throws ReflectiveOperationException {
        String[] words = list.isEmpty() ? new String[0] : list.split(", ");
        Object[] numbers = new Object[words.length];
        Class<?>[] kinds = new Class<?>[words.length];
        for (int k = 0; k < words.length; k++) {
            numbers[k] = Integer.decode(words[k]);
            kinds[k] = int.class;
        }
        Method method = ProofHouse.class.getMethod(name, kinds);
        return method.invoke(house, numbers);
    }

    /** Behind > a TEXT, on the next line its ANSWER and OUT; the other lines are calls with what they answer. */
    private static void runTexts(List<String> lines) throws ReflectiveOperationException {
        Tester tester = new Tester();
        for (int k = 0; k < lines.size(); k++) {
            String line = lines.get(k);
            if (line.startsWith("> ") && k + 1 < lines.size()) {
                k++;
                String due = lines.get(k);
                tester.due(line.substring(2), due.charAt(0) - '0', due.length() > 2 ? due.substring(2) : "");
            } else {
                Matcher call = ANSWERED.matcher(line);
                Tester.same(line + " is a call", call.matches(), true);
                Object got = called(tester.house, call.group(1), call.group(2));
                Tester.same(line, String.valueOf(got), call.group(3));
            }
        }
    }

    private static void namesTheFace(String readme) {
        for (Method method : ProofHouse.class.getDeclaredMethods()) {
            if (Modifier.isPublic(method.getModifiers())) {
                Tester.same("README names " + method.getName(), readme.contains("`" + method.getName() + "("), true);
            }
        }
    }
}
