import java.io.IOException;
import java.nio.file.Files;
import java.nio.file.Path;
import java.util.ArrayList;
import java.util.LinkedHashSet;
import java.util.List;
import java.util.Map;
import java.util.Set;
import java.util.TreeMap;
import java.util.regex.Matcher;
import java.util.regex.Pattern;

/** The sentences of ../shared/DOC.md, by the promise that they stand in, and which of them a test has quoted. */
final class Document {
    /** What stands above the promises. */
    static final int DESCRIPTION = 0;
    private static final int NOWHERE = -1;
    private static final Pattern HEADING = Pattern.compile("#+ (?:Promise (\\d+): )?(.*)");
    /** Signatures and headings of groups, and in the description also catchwords, say nothing of themselves. */
    private static final String NO_SENTENCE = "`.*`|---- .*";
    private static final String CATCHWORD = "[A-Z][a-z]+\\.";

    private final Map<Integer, Set<String>> sentences = new TreeMap<>();
    private final Set<String> quoted = new LinkedHashSet<>();

    Document() throws IOException {
        String text = Files.readString(Path.of("../shared/DOC.md")).replaceAll("(?s)```.*?```", "");
        int section = NOWHERE;
        for (String paragraph : text.split("\\n\\s*\\n|\\n(?=- )")) {
            Matcher heading = HEADING.matcher(paragraph.strip());
            if (heading.matches()) {
                section = sectionOf(heading);
            } else {
                add(section, paragraph.strip().replaceAll("\\s+", " "));
            }
        }
    }

    private static int sectionOf(Matcher heading) {
        if (heading.group(1) != null) {
            return Integer.parseInt(heading.group(1));
        }
        return heading.group(2).equals("Not promised") ? NOWHERE : DESCRIPTION;
    }

    private void add(int section, String paragraph) {
        for (String sentence : paragraph.split("(?<=\\.) (?=[A-Z])")) {
            boolean isCatchword = section == DESCRIPTION && sentence.matches(CATCHWORD);
            if (!sentence.isEmpty() && !sentence.matches(NO_SENTENCE) && !isCatchword) {
                sentences.computeIfAbsent(section, any -> new LinkedHashSet<>()).add(sentence);
            }
        }
    }

    /** Returns whether the sentence stands there, word for word. */
    boolean quote(int section, String sentence) {
        quoted.add(section + ": " + sentence);
        return sentences.getOrDefault(section, Set.of()).contains(sentence);
    }

    /** The sentences of some sections that were not quoted. */
    List<String> left(int first, int last) {
        List<String> left = new ArrayList<>();
        for (int section = first; section <= last; section++) {
            for (String sentence : sentences.getOrDefault(section, Set.of())) {
                if (!quoted.contains(section + ": " + sentence)) {
                    left.add(section + ": " + sentence);
                }
            }
        }
        return left;
    }
}
