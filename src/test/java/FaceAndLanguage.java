import java.lang.reflect.Array;
import java.lang.reflect.Constructor;
import java.lang.reflect.Field;
import java.lang.reflect.Method;
import java.lang.reflect.Modifier;
import java.nio.charset.StandardCharsets;
import java.nio.file.Files;
import java.nio.file.Path;
import java.util.ArrayList;
import java.util.Arrays;
import java.util.Collections;
import java.util.IdentityHashMap;
import java.util.List;
import java.util.Set;
import java.util.TreeSet;
import java.util.regex.Matcher;
import java.util.regex.Pattern;

/** The program's face against the document's, and what of LANGUAGE.md can be seen. Arguments: DOC.md, SmallerOut.java. */
public final class FaceAndLanguage {
    private static int wrong = 0;

    private static void due(boolean so, String what) {
        if (!so) {
            wrong++;
            System.out.println(what);
        }
    }

    public static void main(String[] args) throws Exception {
        String doc = Files.readString(Path.of(args[0]), StandardCharsets.UTF_8);
        String source = Files.readString(Path.of(args[1]), StandardCharsets.ISO_8859_1);
        face(doc);
        List<Class<?>> all = new ArrayList<>(List.of(SmallerOut.class));
        all.addAll(Arrays.asList(SmallerOut.class.getDeclaredClasses()));
        due(all.size() <= 12, "classes: " + all.size());
        for (Class<?> one : all) {
            members(one);
        }
        words(source);
        lengths(source);
        made(source);
        System.out.println("FaceAndLanguage: " + wrong + " faults");
        if (wrong != 0) {
            System.exit(1);
        }
    }

    private static void face(String doc) {
        String block = doc.substring(doc.indexOf("```java"), doc.indexOf("```", doc.indexOf("```java") + 3));
        Set<String> due = new TreeSet<>();
        Matcher told = Pattern.compile("public (\\w+) (\\w+)\\(([^)]*)\\);").matcher(block);
        while (told.find()) {
            String kinds = told.group(3).replaceAll("(\\w+) \\w+", "$1").replace(" ", "");
            due.add(told.group(1) + " " + told.group(2) + "(" + kinds + ")");
        }
        Set<String> is = new TreeSet<>();
        for (Method one : SmallerOut.class.getDeclaredMethods()) {
            if (!Modifier.isPrivate(one.getModifiers())) {
                due(Modifier.isPublic(one.getModifiers()) && !Modifier.isStatic(one.getModifiers()), "open: " + one);
                List<String> kinds = Arrays.stream(one.getParameterTypes()).map(Class::getName).toList();
                is.add(one.getReturnType().getName() + " " + one.getName() + "(" + String.join(",", kinds) + ")");
            }
        }
        due(due.size() == 37, "methods told: " + due.size());
        due(is.equals(due), "methods: " + is + " where " + due + " are told");
        Set<String> constants = new TreeSet<>();
        for (Field one : SmallerOut.class.getDeclaredFields()) {
            if (!Modifier.isPrivate(one.getModifiers())) {
                constants.add(Modifier.toString(one.getModifiers()) + " " + one.getName());
            }
        }
        String open = "public static final ";
        due(constants.equals(Set.of(open + "BAD", open + "NOT", open + "FULL", open + "STATE", open + "VOID")),
                "constants: " + constants);
        Constructor<?>[] makers = SmallerOut.class.getDeclaredConstructors();
        due(makers.length == 1 && Modifier.isPublic(makers[0].getModifiers()) && makers[0].getParameterCount() == 0,
                "constructors: " + Arrays.toString(makers));
        due(Modifier.isFinal(SmallerOut.class.getModifiers()), "the class is not final");
    }

    private static void members(Class<?> one) {
        due(one == SmallerOut.class || Modifier.isStatic(one.getModifiers()), one + " is not static");
        due(one.getDeclaredClasses().length == 0 || one == SmallerOut.class, one + " has classes inside");
        Set<String> open = new TreeSet<>();
        for (Method method : SmallerOut.class.getMethods()) {
            open.add(method.getName());
        }
        for (Method method : one.getDeclaredMethods()) {
            due(method.getParameterCount() <= 7, method + " takes too many");
            due(!Modifier.isPrivate(method.getModifiers()) || !open.contains(method.getName()), method + " bears an open name");
            due(!Set.of("equals", "hashCode", "toString").contains(method.getName()), method + " is not allowed");
        }
        int fields = 0;
        for (Field field : one.getDeclaredFields()) {
            boolean isStatic = Modifier.isStatic(field.getModifiers());
            due(!isStatic || Modifier.isFinal(field.getModifiers()), field + " is static and not final");
            fields += isStatic ? 0 : 1;
            Class<?> type = field.getType();
            Class<?> part = type.isArray() ? type.getComponentType() : type;
            due(part.isPrimitive() || part.getName().startsWith("SmallerOut"), field + " is of a kind not expected here");
        }
        due(fields <= 20, one + " has " + fields + " fields");
    }

    /** Without comments and without what stands in quotes. */
    private static String bare(String source) {
        return source.replaceAll("(?s)/\\*.*?\\*/", " ").replaceAll("//[^\n]*", " ").replaceAll("'(\\\\.|[^'\\\\])'", "'x'")
                .replaceAll("\"(\\\\.|[^\"\\\\])*\"", "\"\"");
    }

    private static void words(String source) {
        for (int i = 0; i < source.length(); i++) {
            due(source.charAt(i) < 128, "a sign above 127 at " + i);
        }
        String bare = bare(source);
        String[] banned = {"throw", "throws", "try", "catch", "finally", "synchronized", "assert", "import", "package",
            "Exact", "float", "double", "Object", "Thread", "Random", "native", "volatile", "enum", "record", "yield", "var"};
        for (String word : banned) {
            due(!Pattern.compile("\\b" + word + "\\b").matcher(bare).find(), "the word " + word);
        }
        for (String sign : new String[] {"->", "::", "@", "\"", "..."}) {
            due(!bare.contains(sign), "the sign " + sign);
        }
        Matcher call = Pattern.compile("\\b(System|Math|Integer|Long|Arrays)\\.(\\w+)").matcher(bare);
        Set<String> library = Set.of("System.arraycopy", "Math.max", "Math.min", "Integer.bitCount", "Long.MIN_VALUE");
        while (call.find()) {
            due(library.contains(call.group()), "the library's " + call.group());
        }
        due(!Pattern.compile("\\bstatic\\s*\\{").matcher(bare).find(), "a static initialiser");
    }

    /**
     * Rule 12, what a run makes: an object makes all it needs when it is made, no call makes more, and even a run that
     * makes an object at each of 512 calls stays below 600,000 objects and 7.3 million fields and elements.
     */
    private static void made(String source) throws Exception {
        for (String line : bare(source).split("\n")) {
            due(!line.contains("new ") || line.matches("\\s*(private )?final .* = new .*")
                    || line.trim().equals("shelves[i] = new Shelf();"), "made in a call: " + line.trim());
        }
        Set<Object> seen = Collections.newSetFromMap(new IdentityHashMap<>());
        long parts = parts(new SmallerOut(), seen);
        due(seen.size() * 512L < 600_000, "objects: " + seen.size());
        due(parts > 1000 && parts * 512 < 7_300_000, "fields and elements: " + parts);
    }

    /** Fields and elements of an object and of all that it holds. */
    private static long parts(Object one, Set<Object> seen) throws Exception {
        if (one == null || !seen.add(one)) {
            return 0;
        }
        long parts = 0;
        if (one.getClass().isArray()) {
            int length = Array.getLength(one);
            for (int i = 0; one instanceof Object[] && i < length; i++) {
                parts += parts(Array.get(one, i), seen);
            }
            return parts + length;
        }
        for (Field field : one.getClass().getDeclaredFields()) {
            if (!Modifier.isStatic(field.getModifiers())) {
                field.setAccessible(true);
                parts += 1 + (field.getType().isPrimitive() ? 0 : parts(field.get(one), seen));
            }
        }
        return parts;
    }

    /** A method at most sixty lines, by the indents that the file keeps. */
    private static void lengths(String source) {
        String[] lines = source.split("\n");
        int methods = 0;
        for (int i = 0; i < lines.length; i++) {
            Matcher head = Pattern.compile("( {4}| {8})\\S.*\\) \\{").matcher(lines[i]);
            if (!head.matches() || lines[i].contains(" class ")) {
                continue;
            }
            methods++;
            int end = i;
            while (end < lines.length && !lines[end].equals(head.group(1) + "}")) {
                end++;
            }
            due(end - i < 60, "a method of " + (end - i + 1) + " lines at " + (i + 1));
        }
        due(methods > 100, "methods seen: " + methods);
    }
}
