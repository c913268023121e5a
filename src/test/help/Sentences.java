import java.io.IOException;
import java.nio.file.Files;
import java.nio.file.Path;
import java.util.LinkedHashMap;
import java.util.Map;
import java.util.TreeSet;

// The document by sections, and which sentence of it a test asks about: a test names its sentence in the document's own
// words, and at the end no word of a section may have been left without a test.
final class Sentences {
    private static final String[] TERMS = {"FINDINGS", "THE HOME", "THINGS", "LIVES", "WORTH", "FAIR", "HURTS", "WORSE", "A DAY",
        "DRAWS", "A TEXT", "SPOTS"};

    private final Map<String, String> texts = new LinkedHashMap<>();
    private final Map<String, boolean[]> named = new LinkedHashMap<>();
    private String label = "";
    private int asked = 0;
    private int wrong = 0;

    Sentences() {
        String heading = "";
        for (String line : lines()) {
            String bare = line.strip().replaceFirst("^[123]\\. ", "");
            if (line.startsWith("## ")) {
                heading = line.substring(3);
            } else if (heading.equals("Terms")) {
                for (String term : TERMS) if (bare.startsWith(term)) put("Terms, " + term, bare);
            } else if (heading.startsWith("Promise ") && !bare.isEmpty()) {
                put(heading.substring(0, heading.indexOf(':')), bare.replaceFirst("^`[^`]*`: ", ""));
            }
        }
        so("the document has 12 terms and 41 promises, not " + texts.keySet(), texts.size() == 53);
    }

    private static Iterable<String> lines() {
        try {
            return Files.readAllLines(Path.of("../shared/DOC.md"));
        } catch (IOException e) {
            throw new IllegalStateException(e);
        }
    }

    private void put(String section, String text) {
        so(section + " stands once in the document", !texts.containsKey(section));
        texts.put(section, text);
        named.put(section, new boolean[text.length()]);
    }

    // From here on the answers are asked for this sentence.
    void of(String section, String sentence) {
        label = section + ": " + sentence;
        String text = texts.getOrDefault(section, "");
        int at = text.indexOf(sentence);
        so("these words stand in the document", at >= 0);
        for (; at >= 0; at = text.indexOf(sentence, at + 1)) {
            for (int i = 0; i < sentence.length(); i++) named.get(section)[at + i] = true;
        }
    }

    void due(String call, long got, long want) {
        so(call + " answered " + got + ", due is " + want, got == want);
    }

    void so(String what, boolean holds) {
        asked++;
        if (!holds) {
            wrong++;
            System.out.println(label + ": " + what);
        }
    }

    void allNamed(String sections) {
        label = "";
        for (String section : texts.keySet()) {
            if (!section.startsWith(sections)) continue;
            TreeSet<String> left = new TreeSet<>();
            for (String part : leftOf(section).split("\n")) if (part.matches(".*[A-Za-z0-9].*")) left.add(part.strip());
            so(section + ": no test names " + left, left.isEmpty());
        }
    }

    private String leftOf(String section) {
        StringBuilder left = new StringBuilder();
        String text = texts.get(section);
        for (int i = 0; i < text.length(); i++) left.append(named.get(section)[i] ? '\n' : text.charAt(i));
        return left.toString();
    }

    void end() {
        System.out.println(asked + " answers asked, " + wrong + " not as due");
        if (wrong != 0) System.exit(1);
    }
}
