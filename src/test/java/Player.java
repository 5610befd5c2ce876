import java.lang.reflect.InvocationTargetException;
import java.lang.reflect.Method;
import java.lang.reflect.Modifier;
import java.util.HashMap;
import java.util.Map;
import java.util.regex.Matcher;
import java.util.regex.Pattern;

/**
 * One object of SmallerOut, and calls on it told as a text, a few to a line:
 * <pre>
 * may(0, 12) = 1  mend(0, 3, 20)     calls, the first with the answer that is due
 * new                                another object
 * rooms 3                            three ROOMS, and likewise, each due to be the next number:
 * doors 1:0 12:2                     DOORS from 0 to 1, UP, and from 1 to 2, ALIKE
 * people 30:0 20:1                   PEOPLE of a SIZE in a ROOM
 * tape a>b                           bytes fed
 * law a>b = 1                        bytes fed, then law() with what is due; _ stands for a blank
 * bytes 0 : 1 2 3                    a ROW of bytes on a SHELF
 * times 40 body(0)                   a call so many times
 * </pre>
 * What stands behind two strokes is a comment (but in a text of the law, where two strokes can stand too).
 */
final class Player {
    private static final Map<String, Long> NUMBERS = Map.of("BAD", -1L, "NOT", -2L, "FULL", -3L, "STATE", -5L,
            "VOID", -2000000000L, "MIN", (long) Integer.MIN_VALUE, "MAX", (long) Integer.MAX_VALUE,
            "LEAST", Long.MIN_VALUE, "MOST", Long.MAX_VALUE);
    private static final Pattern CALL = Pattern.compile("(\\w+)\\(([^)]*)\\)(?: = (-?\\w+))?\\s*");
    private static final Pattern LAW = Pattern.compile("law (.*)= (-?\\d+)");
    private static final Map<String, Method> METHODS = methods();
    private static final int MOST_CALLS = 512;

    private final Sentences heard;
    private SmallerOut x = new SmallerOut();
    private int calls = 0;

    Player(Sentences heard) {
        this.heard = heard;
    }

    private static Map<String, Method> methods() {
        Map<String, Method> all = new HashMap<>();
        for (Method one : SmallerOut.class.getDeclaredMethods()) {
            if (Modifier.isPublic(one.getModifiers())) {
                all.put(one.getName(), one);
            }
        }
        return all;
    }

    int calls() {
        return calls;
    }

    void play(String script) {
        for (String line : script.split("\n")) {
            String words = line.trim();
            if (words.startsWith("law ")) {
                law(words);
            } else {
                one(words.replaceAll("\\s*//.*", ""));
            }
        }
    }

    private void one(String line) {
        String[] words = line.split("[ :]+");
        switch (words[0]) {
            case "":
                break;
            case "new":
                x = new SmallerOut();
                calls = 0;
                break;
            case "rooms":
                for (int i = 0; i < Integer.parseInt(words[1]); i++) {
                    is("room()", i);
                }
                break;
            case "doors":
                pairs("door", words);
                break;
            case "people":
                pairs("person", words);
                break;
            case "tape":
                feed(words[1]);
                break;
            case "bytes":
                bytes(words);
                break;
            case "times":
                for (int i = 0; i < Integer.parseInt(words[1]); i++) {
                    answer(line.substring(line.indexOf(words[2])));
                }
                break;
            default:
                calls(line);
                break;
        }
    }

    private void calls(String line) {
        Matcher call = CALL.matcher(line);
        int at = 0;
        while (call.find() && call.start() == at) {
            at = call.end();
            if (call.group(3) == null) {
                answer(call.group(1), call.group(2));
            } else {
                is(call.group(1) + "(" + call.group(2) + ")", number(call.group(3)));
            }
        }
        if (at != line.length()) {
            throw new IllegalArgumentException("no calls: " + line);
        }
    }

    /** From a first number 0 on, as the object is new to them. */
    private void pairs(String name, String[] words) {
        for (int i = 1; i + 1 < words.length; i += 2) {
            is(name + "(" + words[i] + ", " + words[i + 1] + ")", i / 2);
        }
    }

    private void bytes(String[] words) {
        is("row(" + words[1] + ", 0, " + (words.length - 2) + ")", 1);
        for (int i = 2; i < words.length; i++) {
            is("put(" + words[1] + ", " + (i - 2) + ", " + words[i] + ")", 1);
        }
    }

    private void law(String words) {
        Matcher told = LAW.matcher(words);
        if (!told.matches()) {
            throw new IllegalArgumentException("no law: " + words);
        }
        law(told.group(1).trim().replace('_', ' '), Integer.parseInt(told.group(2)));
    }

    void law(String text, int due) {
        feed(text);
        heard.is("law() of " + text, answer("law()"), due);
    }

    void feed(String text) {
        for (int i = 0; i < text.length(); i++) {
            answer("feed", String.valueOf((int) text.charAt(i)));
        }
    }

    void is(String call, long due) {
        heard.is(call, answer(call), due);
    }

    long answer(String call) {
        Matcher told = CALL.matcher(call);
        if (!told.matches()) {
            throw new IllegalArgumentException("no call: " + call);
        }
        return answer(told.group(1), told.group(2));
    }

    private long answer(String name, String told) {
        Method method = METHODS.get(name);
        String[] words = told.isBlank() ? new String[0] : told.split(",\\s*");
        Object[] with = new Object[words.length];
        for (int i = 0; i < words.length; i++) {
            long v = number(words[i]);
            with[i] = method.getParameterTypes()[i] == long.class ? (Object) v : (Object) Math.toIntExact(v);
        }
        calls++;
        if (calls > MOST_CALLS) {
            throw new IllegalStateException("more calls than an object is used for");
        }
        try {
            return ((Number) method.invoke(x, with)).longValue();
        } catch (InvocationTargetException | IllegalAccessException e) {
            throw new IllegalStateException(name + "(" + told + ") threw " + e.getCause(), e);
        }
    }

    private static long number(String word) {
        return NUMBERS.containsKey(word) ? NUMBERS.get(word) : Long.parseLong(word);
    }
}
