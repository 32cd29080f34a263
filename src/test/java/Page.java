import java.io.IOException;
import java.nio.file.Files;
import java.nio.file.Path;
import java.util.LinkedHashMap;
import java.util.Map;
import java.util.regex.Matcher;
import java.util.regex.Pattern;

/**
 * The document in its sections. A test quotes the sentence that it is of, and asks behind that; what no test quotes,
 * what is quoted and does not stand there, and what is quoted without an answer asked for, is a fault of the tests.
 */
final class Page {
    static final int NONE = -1, UNKNOWN = -1001, OUTSIDE = -1002, NOT = -1003, FULL = -1004;
    static final int LOW = Integer.MIN_VALUE, HIGH = Integer.MAX_VALUE;

    private final Map<String, String> texts = new LinkedHashMap<>();
    private final Map<String, boolean[]> quoted = new LinkedHashMap<>();
    private String section = "";
    private String sentence = "";
    private boolean asks;
    private int askedSince;
    private int sentences;
    private int answers;
    private int wrong;

    Page(Path document) throws IOException {
        String text = Files.readString(document).replaceAll("```(text)?\\n", "\n").replaceAll("\\s+", " ");
        add("use", text, "An object is used", "## The public face");
        add("terms", text, "## Terms", "======== 1");
        for (int part = 1; part <= 5; part++) {
            add(String.valueOf(part), text, "======== " + part, part < 5 ? "======== " + (part + 1) : "Ahead of the calls");
        }
        for (int promise = 1; promise <= 30; promise++) {
            add("promise " + promise, text, "## Promise " + promise + ":",
                    promise < 30 ? "## Promise " + (promise + 1) + ":" : "## Not promised");
        }
    }

    private void add(String name, String text, String from, String to) {
        int start = text.indexOf(from);
        int end = text.indexOf(to, Math.max(0, start));
        if (start < 0 || end < 0) {
            fault("the document has no section from '" + from + "' to '" + to + "'");
            return;
        }
        String body = text.substring(start, end);
        // Headings and signatures are LanguageTest's.
        Matcher head = Pattern.compile("^(## Promise [^`]*`[^`]*`:|## Terms|======== [0-9])").matcher(body);
        texts.put(name, head.replaceFirst("").trim());
        quoted.put(name, new boolean[texts.get(name).length()]);
    }

    void in(String name) {
        section = name;
    }

    /** What is asked from here on is asked because the document says this. */
    void says(String words) {
        endSentence();
        sentence = words;
        asks = true;
        sentences++;
        quote(words);
    }

    /** Words that bind no answer. */
    void saysNothing(String words) {
        endSentence();
        sentence = "";
        asks = false;
        quote(words);
    }

    private void quote(String words) {
        String text = texts.getOrDefault(section, "");
        int at = text.indexOf(words);
        if (at < 0) {
            fault("section " + section + " does not say '" + words + "'");
            return;
        }
        for (int k = at; k < at + words.length(); k++) {
            quoted.get(section)[k] = true;
        }
    }

    private void endSentence() {
        if (asks && askedSince == 0) fault("nothing is asked of '" + sentence + "'");
        askedSince = 0;
    }

    void is(String call, long got, long want) {
        answers++;
        askedSince++;
        if (got != want) {
            fault(call + " answered " + got + ", due is " + want);
        }
    }

    private void fault(String what) {
        wrong++;
        System.out.println(section + ", '" + sentence + "': " + what);
    }

    void end() {
        endSentence();
        for (String name : texts.keySet()) {
            String text = texts.get(name);
            StringBuilder rest = new StringBuilder();
            for (int k = 0; k < text.length(); k++) {
                rest.append(quoted.get(name)[k] ? ' ' : text.charAt(k));
            }
            if (Pattern.compile("[A-Za-z0-9]").matcher(rest).find()) {
                section = name;
                sentence = "";
                fault("no test quotes '" + rest.toString().replaceAll("\\s+", " ").trim() + "'");
            }
        }
        System.out.println(sentences + " sentences, " + answers + " answers, " + wrong + " not as due");
        if (wrong != 0) {
            System.exit(1);
        }
    }
}
