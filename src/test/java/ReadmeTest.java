import java.lang.reflect.Method;
import java.lang.reflect.Modifier;
import java.nio.file.Files;
import java.nio.file.Path;
import java.util.List;
import java.util.Map;
import java.util.TreeMap;
import java.util.regex.Matcher;
import java.util.regex.Pattern;

/** Makes the calls that README.md shows, in their order, and holds each answer against the one that stands behind it. */
public final class ReadmeTest {
    private static final Pattern CALL = Pattern.compile("block\\.(\\w+)\\(([^)]*)\\);\\s*// (-?\\d+|true|false)(:.*)?");
    private static final Pattern TEXT = Pattern.compile("tell\\(block, \"([^\"]*)\"\\);");

    private final Map<String, Method> face = new TreeMap<>();
    private SixAcres block = new SixAcres();
    private int asked;
    private int wrong;

    private ReadmeTest() {
        for (Method m : SixAcres.class.getDeclaredMethods()) {
            if (Modifier.isPublic(m.getModifiers())) {
                face.put(m.getName(), m);
            }
        }
    }

    public static void main(String[] args) throws Exception {
        ReadmeTest test = new ReadmeTest();
        String page = Files.readString(Path.of("README.md"));
        test.run(List.of(page.split("\n")));
        test.expectAllCalls(page);
        System.out.println("readme: " + test.asked + " answers asked, " + test.wrong + " not as due");
        System.exit(test.wrong == 0 ? 0 : 1);
    }

    private void fail(String what) {
        wrong++;
        System.out.println("readme: " + what);
    }

    private void run(List<String> lines) throws Exception {
        boolean isCode = false;
        for (String line : lines) {
            if (line.startsWith("```")) {
                isCode = line.equals("```java");
            } else if (isCode) {
                runLine(line);
            }
        }
    }

    private void runLine(String line) throws Exception {
        Matcher call = CALL.matcher(line);
        Matcher text = TEXT.matcher(line);
        if (line.equals("SixAcres block = new SixAcres();")) {
            block = new SixAcres();
        } else if (text.matches()) {
            tell(block, text.group(1));
        } else if (call.matches()) {
            hold(line, call);
        } else {
            fail("can't read " + line);
        }
    }

    private void hold(String line, Matcher call) throws Exception {
        Method method = face.get(call.group(1));
        if (method == null) {
            fail("no such call: " + line);
            return;
        }
        String numbers = call.group(2).replace("SixAcres.NONE", "-1");
        String[] parts = numbers.isEmpty() ? new String[0] : numbers.split(", ");
        Object[] arguments = new Object[parts.length];
        for (int i = 0; i < parts.length; i++) {
            arguments[i] = Integer.valueOf(parts[i]);
        }
        String answer = String.valueOf(method.invoke(block, arguments));
        asked++;
        if (!answer.equals(call.group(3))) {
            fail(line + " answered " + answer);
        }
    }

    private void expectAllCalls(String page) {
        for (String name : face.keySet()) {
            if (!page.contains("| `" + name + "(")) {
                fail(name + " isn't told of");
            }
        }
    }

    private static void tell(SixAcres block, String text) {
        for (int at = 0; at < text.length(); at += 20) {
            int[] five = new int[5];
            for (int i = 0; i < 20; i++) {
                int sign = at + i < text.length() ? text.charAt(at + i) : ' ';
                five[i / 4] = five[i / 4] << 8 | sign;
            }
            block.feed(five[0], five[1], five[2], five[3], five[4]);
        }
        block.custom(text.length());
    }
}
