import java.lang.reflect.Method;
import java.lang.reflect.Modifier;
import java.nio.charset.StandardCharsets;
import java.nio.file.Files;
import java.nio.file.Path;
import java.util.HashMap;
import java.util.Map;
import java.util.TreeSet;
import java.util.regex.Matcher;
import java.util.regex.Pattern;

/**
 * The examples of README.md, each against the answer that stands behind it; a fault is told with the promise of the
 * call and its sentences, as the document has them. Each call of the document has an example. Arguments: DOC.md,
 * README.md.
 */
public final class ReadmeTest {
    private static final Map<String, Long> NAMES = Map.of("BAD", -1L, "NOT", -2L, "FULL", -3L, "STATE", -5L);
    private static final Pattern NEW = Pattern.compile("SmallerOut house = new SmallerOut\\(\\);");
    private static final Pattern FED = Pattern.compile(
            "for \\(char c : \"([^\"]*)\"\\.toCharArray\\(\\)\\) \\{ house\\.feed\\(c\\); \\}");
    private static final Pattern CALL = Pattern.compile("house\\.(\\w+)\\(([^)]*)\\); +// (-?\\w+)(: .*)?");

    private final Map<String, String> promises = new HashMap<>();
    private final Map<String, Method> methods = new HashMap<>();
    private final TreeSet<String> without = new TreeSet<>();
    private SmallerOut house = null;
    private int looked = 0;
    private int wrong = 0;

    private ReadmeTest(String doc) {
        Matcher promise = Pattern.compile("## (Promise \\d+): (\\w+)\n\n`[^`]*`: ([^\n]*)\n").matcher(doc);
        while (promise.find()) {
            promises.put(promise.group(2), promise.group(1) + ", \"" + promise.group(3) + "\"");
        }
        for (Method one : SmallerOut.class.getDeclaredMethods()) {
            if (Modifier.isPublic(one.getModifiers())) {
                methods.put(one.getName(), one);
                without.add(one.getName());
            }
        }
        if (!promises.keySet().equals(methods.keySet())) {
            fault("the document's calls are not the program's: " + promises.keySet());
        }
    }

    private void fault(String what) {
        wrong++;
        System.out.println(what);
    }

    private void line(String line) throws Exception {
        Matcher fed = FED.matcher(line);
        Matcher call = CALL.matcher(line);
        if (NEW.matcher(line).matches()) {
            house = new SmallerOut();
        } else if (fed.matches()) {
            without.remove("feed");
            for (char c : fed.group(1).toCharArray()) {
                house.feed(c);
            }
        } else if (call.matches() && methods.containsKey(call.group(1))) {
            example(call.group(1), call.group(2), call.group(3));
        } else {
            fault("README.md: no call that is known: " + line);
        }
    }

    private void example(String name, String told, String answer) throws Exception {
        Method method = methods.get(name);
        String[] words = told.isEmpty() ? new String[0] : told.split(", ");
        Object[] with = new Object[words.length];
        for (int i = 0; i < words.length; i++) {
            with[i] = method.getParameterTypes()[i] == long.class ? (Object) Long.valueOf(words[i])
                    : (Object) Integer.valueOf(words[i]);
        }
        long got = ((Number) method.invoke(house, with)).longValue();
        long due = NAMES.containsKey(answer) ? NAMES.get(answer) : Long.parseLong(answer);
        looked++;
        without.remove(name);
        if (got != due) {
            fault(promises.get(name) + ": README.md has " + name + "(" + told + ") answer " + due + ", it answered " + got);
        }
    }

    public static void main(String[] args) throws Exception {
        ReadmeTest test = new ReadmeTest(Files.readString(Path.of(args[0]), StandardCharsets.UTF_8));
        boolean inside = false;
        for (String line : Files.readString(Path.of(args[1]), StandardCharsets.UTF_8).split("\n")) {
            if (line.startsWith("```")) {
                inside = line.equals("```java");
            } else if (inside) {
                test.line(line);
            }
        }
        for (String name : test.without) {
            test.fault(test.promises.get(name) + ": README.md has no example of " + name + "()");
        }
        System.out.println("ReadmeTest: " + test.looked + " examples, " + test.wrong + " wrong");
        if (test.wrong != 0) {
            System.exit(1);
        }
    }
}
