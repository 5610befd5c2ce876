import java.nio.charset.StandardCharsets;
import java.nio.file.Files;
import java.nio.file.Path;
import java.util.LinkedHashMap;
import java.util.Map;
import java.util.regex.Matcher;
import java.util.regex.Pattern;

/**
 * The sentences of the document, each with the test that stands for it. A test names a place (Terms 1 .. 4, promise
 * 1 .. 38) and the sentence, word for word, and tells calls with the answers that are due. It is a fault if an answer
 * differs, if the document has no such sentence there, if a test looks at no answer, or if any of the Terms' and
 * promises' text is left without a test. An argument: DOC.md.
 */
final class Sentences {
    private final Map<String, String> texts = new LinkedHashMap<>();
    private final Map<String, boolean[]> told = new LinkedHashMap<>();
    private String place = "";
    private String sentence = "";
    private int sentences = 0;
    private int looked = 0;
    private int lookedHere = 1;
    private int wrong = 0;

    Sentences(String doc) {
        String terms = between(doc, "## Terms", "## Promise 1:");
        String[] blocks = terms.split("={8} \\d ");
        for (int i = 1; i < blocks.length; i++) {
            learn("Terms " + i, blocks[i].replaceAll("(?m)^Ahead of the calls .*$", "").replace("```text", "").replace("```", ""));
        }
        learn("What it is", between(doc, "## What it is", "## The public face"));
        Matcher promise = Pattern.compile("## Promise (\\d+): [^\n]*\n\n`[^`]*`: ([^\n]*)\n").matcher(doc);
        while (promise.find()) {
            learn("promise " + promise.group(1), promise.group(2));
        }
        check(texts.size() == 4 + 1 + 38, "the document has " + texts.size() + " places where 43 are known");
    }

    private static String between(String doc, String from, String to) {
        int start = doc.indexOf(from) + from.length();
        return doc.substring(start, doc.indexOf(to, start));
    }

    private void learn(String where, String text) {
        String plain = text.replaceAll("\\s+", " ").trim();
        texts.put(where, plain);
        told.put(where, new boolean[plain.length()]);
    }

    private void check(boolean so, String fault) {
        if (!so) {
            wrong++;
            System.out.println(place + ", \"" + sentence + "\": " + fault);
        }
    }

    /** What follows stands for this sentence. */
    void says(String where, String words) {
        check(lookedHere > 0, "its test looks at no answer");
        place = where;
        sentence = words;
        sentences++;
        lookedHere = 0;
        String text = texts.getOrDefault(where, "");
        int at = text.indexOf(words);
        check(at >= 0, "the document has no such sentence there");
        // One that comes twice is told twice.
        while (at >= 0 && told.get(where)[at] && text.indexOf(words, at + 1) >= 0) {
            at = text.indexOf(words, at + 1);
        }
        for (int i = at; at >= 0 && i < at + words.length(); i++) {
            told.get(where)[i] = true;
        }
    }

    /** What follows stands for this sentence, and first of all these calls on a new object. */
    Player says(String where, String words, String script) {
        says(where, words);
        return script(script);
    }

    Player script(String script) {
        Player player = new Player(this);
        player.play(script);
        return player;
    }

    void is(String call, long got, long due) {
        looked++;
        lookedHere++;
        check(got == due, call + " answered " + got + ", due is " + due);
    }

    void isText(String what, String got, String due) {
        looked++;
        lookedHere++;
        check(got.equals(due), what + ": " + got + ", due is " + due);
    }

    private int end() {
        check(lookedHere > 0, "its test looks at no answer");
        for (Map.Entry<String, String> one : texts.entrySet()) {
            if (!one.getKey().equals("What it is")) {
                place = one.getKey();
                untold(one.getValue(), told.get(place));
            }
        }
        System.out.println("Sentences: " + sentences + " sentences, " + looked + " answers looked at, " + wrong + " wrong");
        return wrong;
    }

    private void untold(String text, boolean[] has) {
        StringBuilder left = new StringBuilder();
        for (int i = 0; i < text.length(); i++) {
            left.append(has[i] ? '\n' : text.charAt(i));
        }
        for (String part : left.toString().split("\n+")) {
            sentence = part.trim();
            check(sentence.isEmpty(), "no test stands for this");
        }
    }

    public static void main(String[] args) throws Exception {
        Sentences all = new Sentences(Files.readString(Path.of(args[0]), StandardCharsets.UTF_8));
        TermSentences.tell(all);
        ActSentences.tell(all);
        AnswerSentences.tell(all);
        PromiseSentences.tell(all);
        if (all.end() != 0) {
            System.exit(1);
        }
    }
}
