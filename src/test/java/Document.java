import java.io.IOException;
import java.nio.file.Files;
import java.nio.file.Path;
import java.util.HashMap;
import java.util.Map;
import java.util.regex.Matcher;
import java.util.regex.Pattern;

/** What the document says under each promise (under 0 its terms), and what of it some test has named. */
final class Document {
    private static final Path PLACE = Path.of("../shared/DOC.md");

    private final Map<Integer, String> sections = new HashMap<>();
    private final Map<Integer, boolean[]> named = new HashMap<>();

    /** Where the document is missing its words can't be looked at; what the tests ask for holds all the same. */
    private final boolean missing = !Files.isReadable(PLACE);

    Document() throws IOException {
        if (missing) {
            System.out.println("no document at " + PLACE + ": what the tests quote is not looked at");
            return;
        }
        for (String part : Files.readString(PLACE).split("(?m)^## ")) {
            Matcher m = Pattern.compile("(?:Terms|Promise (\\d+):.*)\n([\\s\\S]*)").matcher(part);
            if (m.matches()) {
                int at = m.group(1) == null ? 0 : Integer.parseInt(m.group(1));
                String words = plain(m.group(2));
                sections.put(at, words);
                named.put(at, new boolean[words.length()]);
            }
        }
    }

    /** Without what tells nothing to test: fences, numbers of the terms, signatures, headings of the interface. */
    private static String plain(String text) {
        return text.replaceAll("(?m)^```.*$|^Ahead of the calls.*$|^\\d\\. |^`[^`]*`:", "").replaceAll("\\s+", " ").trim();
    }

    /** Whether these words stand there. */
    boolean name(int at, String words) {
        if (missing) {
            return true;
        }
        String section = sections.getOrDefault(at, "");
        int from = section.indexOf(words);
        for (int i = from; from >= 0 && i < from + words.length(); i++) {
            named.get(at)[i] = true;
        }
        return from >= 0;
    }

    /** What no test has named, a line for each piece; empty if all is. */
    String unnamed(int at) {
        StringBuilder b = new StringBuilder();
        String section = sections.getOrDefault(at, "");
        boolean open = false;
        for (int i = 0; i < section.length(); i++) {
            boolean misses = !named.get(at)[i] && (open || section.charAt(i) != ' ');
            if (misses) {
                b.append(section.charAt(i));
            } else if (open) {
                b.append('\n');
            }
            open = misses;
        }
        return b.toString().trim();
    }
}
