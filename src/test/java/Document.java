import java.io.IOException;
import java.io.UncheckedIOException;
import java.nio.charset.StandardCharsets;
import java.nio.file.Files;
import java.nio.file.Path;
import java.util.ArrayList;
import java.util.Arrays;
import java.util.List;
import java.util.regex.Matcher;
import java.util.regex.Pattern;

/** The document's terms and promises, and which of their words the tests have quoted. */
final class Document {
    static final int PROMISES = 39;
    private static final Path FILE = Path.of("../shared/DOC.md");
    private static final Pattern HEADING = Pattern.compile("## Promise (\\d+):.*");

    /** The promises by their numbers; at 0 what goes ahead of them. */
    private final String[] parts = new String[PROMISES + 1];
    private final boolean[][] quoted = new boolean[PROMISES + 1][];

    Document() {
        Arrays.fill(parts, "");
        boolean heard = false;
        int part = 0;
        for (String line : lines()) {
            Matcher heading = HEADING.matcher(line);
            if (heading.matches()) {
                part = Integer.parseInt(heading.group(1));
            } else if (line.startsWith("## ")) {
                heard = line.equals("## Terms");
            } else if (heard || part > 0 && !line.isBlank() || line.startsWith("An object is used")) {
                parts[part] += " " + plain(line);
            }
            if (line.equals("## Not promised")) {
                break;
            }
        }
        for (int i = 0; i <= PROMISES; i++) {
            parts[i] = parts[i].trim().replaceAll("\\s+", " ");
            quoted[i] = new boolean[parts[i].length()];
        }
    }

    // A checkout without the document beside it can still test the class; only the quotes go unchecked then.
    boolean isThere() {
        return Files.isReadable(FILE);
    }

    private List<String> lines() {
        try {
            return isThere() ? Files.readAllLines(FILE, StandardCharsets.ISO_8859_1) : List.of();
        } catch (IOException e) {
            throw new UncheckedIOException(e);
        }
    }

    // Fences, signatures and the numbers of the parts tell nothing that a call could break.
    private static String plain(String line) {
        if (line.startsWith("```") || line.startsWith("Ahead of the calls")) {
            return "";
        }
        return line.replaceFirst("^`[^`]*`: ", "").replaceFirst("^======== \\d ", "");
    }

    /** Whether the words stand in the promise, or else ahead of all promises. */
    boolean quote(int promise, String words) {
        return quoteIn(promise, words) || quoteIn(0, words);
    }

    private boolean quoteIn(int part, String words) {
        int at = parts[part].indexOf(words);
        if (at >= 0) {
            Arrays.fill(quoted[part], at, at + words.length(), true);
        }
        return at >= 0;
    }

    /** What no test has quoted, with the promise's number ahead (0: the terms). */
    List<String> unquoted() {
        List<String> rest = new ArrayList<>();
        for (int part = 0; part <= PROMISES; part++) {
            StringBuilder open = new StringBuilder();
            for (int i = 0; i <= parts[part].length(); i++) {
                if (i < parts[part].length() && !quoted[part][i]) {
                    open.append(parts[part].charAt(i));
                } else {
                    if (open.toString().matches(".*[A-Za-z0-9].*")) {
                        rest.add(part + ": " + open.toString().trim());
                    }
                    open.setLength(0);
                }
            }
        }
        return rest;
    }
}
