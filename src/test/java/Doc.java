import java.io.IOException;
import java.nio.file.Files;
import java.nio.file.Path;
import java.util.ArrayList;
import java.util.BitSet;
import java.util.LinkedHashMap;
import java.util.List;
import java.util.Map;
import java.util.regex.Matcher;
import java.util.regex.Pattern;

/** The document by its sections ("Terms 1", "Promise 7" and so on), and which of their words tests have quoted. */
final class Doc {
    private static final Pattern HEAD =
        Pattern.compile("## (Promise \\d+|[^:]*).*|==== (\\d)\\. (.*)|(The constants): .*");
    private final Map<String, String> texts = new LinkedHashMap<>();
    private final Map<String, BitSet> quoted = new LinkedHashMap<>();

    Doc(Path path) throws IOException {
        if (!Files.isReadable(path)) {
            System.out.println(path + " isn't there: the words that tests quote aren't looked up");
            return;
        }
        String section = "";
        for (String line : Files.readAllLines(path)) {
            Matcher head = HEAD.matcher(line);
            String told = line.startsWith("```") ? "" : line;
            if (head.matches()) {
                boolean isTerms = head.group(2) != null;
                section = isTerms ? "Terms " + head.group(2) : head.group(head.group(4) != null ? 4 : 1);
                told = isTerms ? head.group(3) : head.group(4) != null ? line : "";
            }
            texts.merge(section, told, (before, more) -> before + " " + more);
        }
        texts.replaceAll((name, text) -> plain(name.startsWith("Promise") ? text.replaceFirst("`[^`]*`: ", "") : text));
    }

    private static String plain(String text) {
        return text.replaceAll("\\s+", " ").trim();
    }

    /** Whether a section has these words; from now on they are quoted. */
    boolean quote(String section, String words) {
        if (texts.isEmpty()) {
            return true;
        }
        String text = texts.getOrDefault(section, "");
        int at = text.indexOf(words);
        for (int from = at; from >= 0; from = text.indexOf(words, from + 1)) {
            quoted.computeIfAbsent(section, s -> new BitSet()).set(from, from + words.length());
        }
        return at >= 0;
    }

    /** What terms and promises say that nobody quoted. */
    List<String> unquoted() {
        List<String> all = new ArrayList<>();
        for (Map.Entry<String, String> section : texts.entrySet()) {
            boolean binds = section.getKey().matches("Terms \\d|Promise \\d+|The constants");
            BitSet seen = quoted.getOrDefault(section.getKey(), new BitSet());
            String text = binds ? section.getValue() : "";
            for (int from = seen.nextClearBit(0); from < text.length(); ) {
                int end = seen.nextSetBit(from);
                String rest = text.substring(from, end < 0 ? text.length() : end);
                if (rest.matches(".*[a-zA-Z0-9].*")) {
                    all.add(section.getKey() + ": " + rest);
                }
                from = seen.nextClearBit(from + rest.length());
            }
        }
        return all;
    }
}
