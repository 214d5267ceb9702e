import java.io.IOException;
import java.nio.file.Files;
import java.nio.file.Path;
import java.util.ArrayList;
import java.util.BitSet;
import java.util.LinkedHashMap;
import java.util.List;
import java.util.Map;
import java.util.regex.Matcher;
import java.util.regex.Pattern;

/** The document by its sections, "Terms 1" to "Terms 5" and "Promise 1" to "Promise 32", and what of them was named. */
final class Document {
    private static final Pattern TERM = Pattern.compile("([1-9])\\. (.*)");
    private static final Pattern PROMISE = Pattern.compile("## (Promise [0-9]+):.*");
    private static final Pattern FACE = Pattern.compile("^`[^`]*`: ");

    private final Map<String, String> texts = new LinkedHashMap<>();
    private final Map<String, BitSet> named = new LinkedHashMap<>();

    Document(Path path) throws IOException {
        String section = null;
        for (String line : Files.readAllLines(path)) {
            Matcher term = TERM.matcher(line);
            Matcher promise = PROMISE.matcher(line);
            if (promise.matches()) {
                section = promise.group(1);
            } else if (line.startsWith("#")) {
                section = line.replace("#", "").trim();
            } else if (section != null && section.startsWith("Terms") && term.matches()) {
                section = "Terms " + term.group(1);
                add(section, term.group(2));
            } else if (line.startsWith("The constants:")) {
                section = "Constants";
                add(section, line);
            } else if (section != null && !line.startsWith("```")) {
                add(section, FACE.matcher(line).replaceFirst(""));
            }
        }
        texts.keySet().forEach(name -> named.put(name, new BitSet()));
    }

    private void add(String section, String line) {
        texts.merge(section, line.trim(), (a, b) -> (a + " " + b).trim());
    }

    /** Marks a part of a section as named; false if the section has no such part. */
    boolean name(String section, String part) {
        String text = texts.getOrDefault(section, "");
        int at = text.indexOf(part);
        if (at < 0 || part.isEmpty()) {
            return false;
        }
        for (; at >= 0; at = text.indexOf(part, at + 1)) {
            named.get(section).set(at, at + part.length());
        }
        return true;
    }

    /** What of the terms and promises no test has named. */
    List<String> unnamed() {
        List<String> left = new ArrayList<>();
        for (Map.Entry<String, String> section : texts.entrySet()) {
            if (!section.getKey().matches("(Terms|Promise) [0-9]+")) {
                continue;
            }
            String text = section.getValue();
            BitSet bits = named.get(section.getKey());
            for (int from = bits.nextClearBit(0); from < text.length(); from = bits.nextClearBit(from)) {
                int to = bits.nextSetBit(from) < 0 ? text.length() : bits.nextSetBit(from);
                if (!text.substring(from, to).isBlank()) {
                    left.add(section.getKey() + ": " + text.substring(from, to));
                }
                from = to;
            }
        }
        return left;
    }

    int sections() {
        return (int) texts.keySet().stream().filter(name -> name.matches("(Terms|Promise) [0-9]+")).count();
    }
}
