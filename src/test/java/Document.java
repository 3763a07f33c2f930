import java.io.IOException;
import java.io.UncheckedIOException;
import java.nio.charset.StandardCharsets;
import java.nio.file.Files;
import java.nio.file.Path;
import java.util.ArrayList;
import java.util.List;
import java.util.Map;
import java.util.TreeMap;
import java.util.regex.Matcher;
import java.util.regex.Pattern;

/** The document itself, so that a test can name the words it stands for, and words without a test are found. */
final class Document {
    static final int PROMISES = 35;
    /** The part ahead of the promises. */
    static final int TERMS = 0;

    private static final Path WHERE = Path.of("../shared/DOC.md");
    private static final Pattern PROMISE = Pattern.compile("## Promise (\\d+): \\S+.*?`: (.*?)(?=## )");
    private static final Pattern BOUNDARY = Pattern.compile(
            "NONE| at most|[0-9] to [0-9]| if |never|nothing|nobody|none|first|least|fewest|missing|below|above");

    private static final Map<Integer, String> PARTS = new TreeMap<>();
    private static final Map<Integer, List<String>> QUOTED = new TreeMap<>();

    private Document() {
    }

    private static Map<Integer, String> parts() {
        if (PARTS.isEmpty()) {
            String text = read();
            int promises = text.indexOf("## Promise 1:");
            PARTS.put(TERMS, text.substring(0, promises));
            Matcher m = PROMISE.matcher(text.substring(promises));
            while (m.find()) {
                PARTS.put(Integer.valueOf(m.group(1)), m.group(2).trim());
            }
        }
        return PARTS;
    }

    private static String read() {
        try {
            return Files.readString(WHERE, StandardCharsets.UTF_8).replaceAll("\\s+", " ");
        } catch (IOException e) {
            throw new UncheckedIOException(e);
        }
    }

    /** Whether these words stand in that part of the document; they are kept as quoted. */
    static boolean says(int part, String words) {
        QUOTED.computeIfAbsent(part, k -> new ArrayList<>()).add(words);
        return parts().getOrDefault(part, "").contains(words);
    }

    /** Sentences of the promises, and those of the terms that name a boundary, of which nothing was quoted. */
    static List<String> unquoted() {
        List<String> left = new ArrayList<>();
        if (parts().size() != PROMISES + 1) {
            left.add("there are " + (parts().size() - 1) + " promises");
        }
        for (Map.Entry<Integer, String> part : parts().entrySet()) {
            List<String> quotes = QUOTED.getOrDefault(part.getKey(), List.of());
            String words = part.getValue().substring(Math.max(0, part.getValue().indexOf("## Terms")));
            for (String sentence : words.split("(?<=[.)]) (?=[A-Z(=`-])")) {
                boolean ofTerms = part.getKey() == TERMS;
                boolean bounds = !ofTerms || BOUNDARY.matcher(sentence).find();
                boolean quoted = quotes.stream().anyMatch(q -> q.contains(sentence) || ofTerms && sentence.contains(q));
                if (bounds && !quoted) {
                    left.add(part.getKey() + ": " + sentence);
                }
            }
        }
        return left;
    }
}
