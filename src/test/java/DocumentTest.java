import java.io.IOException;
import java.nio.file.DirectoryStream;
import java.nio.file.Files;
import java.nio.file.Path;
import java.util.ArrayList;
import java.util.LinkedHashMap;
import java.util.List;
import java.util.Map;
import java.util.regex.Matcher;
import java.util.regex.Pattern;

/** Each clause of the document is quoted by an edge test, and each quotation is in the document. */
public final class DocumentTest {
    private static final Checks CHECKS = new Checks();
    private static final Path DOCUMENT = Path.of("../shared/DOC.md");
    private static final Path TESTS = Path.of("src/test/java");
    private static final String LITERAL = "\"((?:[^\"\\\\]|\\\\.)*)\"";
    private static final Pattern QUOTATION = Pattern.compile("EDGES\\.sentence\\(\\s*" + LITERAL + ",\\s*("
        + LITERAL + "(?:\\s*\\+\\s*" + LITERAL + ")*)\\);");

    public static void main(String[] args) throws IOException {
        Map<String, List<String>> lines = linesOfSections();
        Map<String, List<String>> quoted = quotations();
        CHECKS.due("sections", lines.size(), 11 + 28);
        for (String section : quoted.keySet()) {
            CHECKS.holds("there is a section " + section, lines.containsKey(section));
            for (String quotation : quoted.get(section)) {
                String text = String.join("\n", lines.getOrDefault(section, List.of()));
                CHECKS.holds(section + " says: " + quotation, text.contains(quotation));
            }
        }
        for (String section : lines.keySet()) {
            for (String line : lines.get(section)) {
                lookAtClauses(section, line, quoted.getOrDefault(section, List.of()));
            }
        }
        CHECKS.end();
    }

    private static void lookAtClauses(String section, String line, List<String> quotations) {
        for (String clause : line.split("(?<=[.;]) ")) {
            String bare = clause.replaceAll("[.;]$", "");
            boolean isQuoted = quotations.stream().anyMatch(q -> bare.contains(q) || q.contains(bare)
                || q.equals(clause));
            CHECKS.holds(section + ": an edge test looks at: " + bare, isQuoted);
        }
    }

    /** The lines of the description by the word in capitals that begins them, and of the promises. */
    private static Map<String, List<String>> linesOfSections() throws IOException {
        Map<String, List<String>> sections = new LinkedHashMap<>();
        Pattern beginning = Pattern.compile("([A-Z]{2,}(?: [A-Z]{2,})*)\\b.*|## (Promise \\d+):.*");
        String section = null;
        for (String line : Files.readAllLines(DOCUMENT)) {
            Matcher found = beginning.matcher(line);
            if (found.matches()) {
                section = found.group(1) != null ? found.group(1) : found.group(2);
                sections.put(section, new ArrayList<>());
            } else if (line.startsWith("## ") || line.equals("The constants:")) {
                section = null;
            }
            String told = line.replaceFirst("^[A-Z ]{2,}\\. ", "").replaceFirst("^- ", "");
            boolean isTold = !told.isBlank() && !line.matches("(##|----|`).*");
            if (section != null && isTold) {
                sections.get(section).add(told);
            }
        }
        return sections;
    }

    private static Map<String, List<String>> quotations() throws IOException {
        Map<String, List<String>> quoted = new LinkedHashMap<>();
        try (DirectoryStream<Path> files = Files.newDirectoryStream(TESTS, "*EdgesTest.java")) {
            for (Path file : files) {
                Matcher found = QUOTATION.matcher(Files.readString(file));
                while (found.find()) {
                    quoted.computeIfAbsent(found.group(1), s -> new ArrayList<>()).add(joined(found.group(2)));
                }
            }
        }
        return quoted;
    }

    private static String joined(String literals) {
        StringBuilder text = new StringBuilder();
        Matcher found = Pattern.compile(LITERAL).matcher(literals);
        while (found.find()) {
            text.append(found.group(1).replace("\\\"", "\""));
        }
        return text.toString();
    }
}
