import java.io.IOException;
import java.io.UncheckedIOException;
import java.nio.charset.StandardCharsets;
import java.nio.file.Files;
import java.nio.file.Path;
import java.util.LinkedHashMap;
import java.util.Map;
import java.util.regex.Matcher;
import java.util.regex.Pattern;

/**
 * The document's sentences. A test names the section and the sentence that it holds the program
 * against; the sentence must stand there just once, and something must be asked of it. Of the sections
 * that a test is made for no word may be left that no test names.
 */
final class Sentences {
    private static final Path DOCUMENT = Path.of("../shared/DOC.md");

    private final Map<String, String> sections = new LinkedHashMap<>();
    private final Map<String, boolean[]> named = new LinkedHashMap<>();
    private String now = "";
    private int asked = 1;
    private int answers;
    private int wrong;

    Sentences(String... whole) {
        split(document());
        for (String section : whole) {
            named.put(section, new boolean[sections.getOrDefault(section, "").length()]);
            tell(sections.containsKey(section), "the document has no section " + section);
        }
    }

    private static String document() {
        try {
            return Files.readString(DOCUMENT, StandardCharsets.UTF_8);
        } catch (IOException e) {
            throw new UncheckedIOException(e);
        }
    }

    private void split(String document) {
        gather(document, "(?s)## (What it is)\n(.*?)(?=\n## )");
        gather(document, "(?s)==== (IV|I{1,3})\\. (.*?)(?=\n====|\nThe constants:)");
        gather(document, "(?s)\n(The constants): (.*?)(?=\n## )");
        gather(document, "(?s)## (Promise \\d+): [^\n]*\n+`[^`]*`: (.*?)(?=\n## )");
    }

    private void gather(String document, String pattern) {
        Matcher m = Pattern.compile(pattern).matcher(document);
        while (m.find()) {
            sections.put(m.group(1), plain(m.group(2)));
        }
    }

    private static String plain(String text) {
        return text.replaceAll("```(text)?|`", "").replaceAll("\\s+", " ").trim();
    }

    /** What is asked from here on is asked of this sentence. */
    void of(String section, String sentence) {
        tell(asked > 0, now + " nothing was asked");
        asked = 0;
        now = section + ": '" + sentence + "'";
        String text = sections.getOrDefault(section, "");
        int at = text.indexOf(sentence);
        boolean once = at >= 0 && text.indexOf(sentence, at + 1) < 0;
        tell(once, now + " does not stand there just once");
        boolean[] marks = named.get(section);
        for (int i = 0; once && marks != null && i < sentence.length(); i++) {
            marks[at + i] = true;
        }
    }

    private void tell(boolean right, String fault) {
        if (!right) {
            wrong++;
            System.out.println(fault);
        }
    }

    void due(String what, long got, long want) {
        asked++;
        answers++;
        tell(got == want, now + " " + what + ": answered " + got + ", due is " + want);
    }

    void due(String what, boolean got, boolean want) {
        due(what, got ? 1 : 0, want ? 1 : 0);
    }

    void due(String what, String got, String want) {
        asked++;
        answers++;
        tell(got.equals(want), now + " " + what + ": answered '" + got + "', due is '" + want + "'");
    }

    private void tellUnnamed(String section, boolean[] marks) {
        String text = sections.getOrDefault(section, "");
        StringBuilder left = new StringBuilder();
        for (int i = 0; i < marks.length; i++) {
            left.append(marks[i] ? ' ' : text.charAt(i));
        }
        tell(left.toString().isBlank(), section + ": no test names '" + left.toString().trim() + "'");
    }

    void close(String test) {
        tell(asked > 0, now + " nothing was asked");
        named.forEach(this::tellUnnamed);
        System.out.println(test + ": " + answers + " answers, " + (wrong == 0 ? "all as due" : wrong + " faults"));
        if (wrong != 0) {
            System.exit(1);
        }
    }
}
