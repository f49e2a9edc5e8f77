import java.io.IOException;
import java.nio.file.Files;
import java.nio.file.Path;
import java.util.ArrayList;
import java.util.LinkedHashMap;
import java.util.List;
import java.util.Map;
import java.util.regex.Matcher;
import java.util.regex.Pattern;
import java.util.stream.Stream;

/** The tests name the sentences that they are for; these stand in the document, and none with a boundary is left out. */
public final class QuotesTest {
    private static final Path DOCUMENT = Path.of("../shared/DOC.md");
    private static final Path TESTS = Path.of("src/test/java");
    private static final Pattern QUOTE = Pattern.compile("CHECK\\.sentence\\(\"([^\"]*)\", \"((?:[^\"\\\\]|\\\\.)*)\"\\)");

    /** What stands in the document beside what is quoted: it names no boundary. */
    private static final List<String> WITHOUT_BOUNDARY = List.of(
        "Places in a nursery: rooms for bands of ages",
        "Money is in cents.",
        "Sessions, rooms, carers",
        "A PLACED child has a room, sessions, and is settled or not.",
        "When a week passes:",
        "The constants: `NO_SUCH = -1",
        "`PRICE = 0, DISCOUNT = 1",
        "`WAITING = 0, PLACED = 1",
        "Ahead of the calls `set`, `room`",
        "Ahead of the calls `admit`, `visit`",
        "Ahead of the calls `put`, `wipe`",
        "Ahead of the calls `undo`, `save`",
        "Adds a room.",
        "Adds a carer.",
        "Admits, as told above.",
        "Lets weeks pass.",
        "Error codes, and NONE: there is none.",
        "States of a child.",
        "Settings.",
        "Returns the number;",
        "Returns the set.",
        "Returns how many;",
        "Returns the places;",
        "Returns the cents;",
        "Returns a number about a room.",
        "Returns a number about a carer.",
        "Returns a number about a child.",
        "Returns a number about the nursery.",
        "Tells with which children a child could exchange a session for another one.");

    private static final Check CHECK = new Check("QuotesTest");

    public static void main(String[] args) throws IOException {
        if (!Files.isReadable(DOCUMENT)) {
            System.out.println("QuotesTest: there is no " + DOCUMENT + " to compare the tests with");
            return;
        }
        Map<String, List<String>> document = sections();
        Map<String, List<String>> quotes = quotes();
        for (String section : quotes.keySet()) {
            for (String quote : quotes.get(section)) {
                boolean stands = document.getOrDefault(section, List.of()).stream().anyMatch(line -> line.contains(quote));
                CHECK.that("in the document, " + section + ": " + quote, stands);
            }
        }
        for (String section : document.keySet()) {
            for (String line : document.get(section)) {
                for (String sentence : sentences(line)) {
                    boolean isQuoted = isQuoted(sentence, line, quotes.getOrDefault(section, List.of()));
                    CHECK.that("a test for, " + section + ": " + sentence, isQuoted || hasNoBoundary(sentence));
                }
            }
        }
        CHECK.finish();
    }

    /** The lines of each section, without the program text of the face. */
    private static Map<String, List<String>> sections() throws IOException {
        Map<String, List<String>> sections = new LinkedHashMap<>();
        String section = "";
        boolean isFace = false;
        for (String line : Files.readAllLines(DOCUMENT)) {
            if (line.startsWith("```")) isFace = line.equals("```java");
            if (line.startsWith("## ")) section = line.substring(3).split(":")[0];
            boolean isText = !line.isBlank() && !line.startsWith("#") && !line.startsWith("```");
            if (isText && !isFace && !section.isEmpty() && !section.equals("Not promised")) {
                sections.computeIfAbsent(section, name -> new ArrayList<>()).add(line.strip());
            }
        }
        return sections;
    }

    private static Map<String, List<String>> quotes() throws IOException {
        Map<String, List<String>> quotes = new LinkedHashMap<>();
        List<Path> files;
        try (Stream<Path> all = Files.list(TESTS)) {
            files = all.filter(file -> file.toString().endsWith("BoundsTest.java")).sorted().toList();
        }
        for (Path file : files) {
            Matcher matcher = QUOTE.matcher(Files.readString(file));
            while (matcher.find()) {
                String quote = matcher.group(2).replace("\\\"", "\"");
                quotes.computeIfAbsent(matcher.group(1), name -> new ArrayList<>()).add(quote);
            }
        }
        return quotes;
    }

    /** A line without the number, the title or the face of a method that it begins with, in parts. */
    private static List<String> sentences(String line) {
        String text = line.replaceFirst("^([0-9]\\. |CONVENTIONS\\. |`[^`]*\\)`: )", "");
        List<String> sentences = new ArrayList<>();
        for (String part : text.split("(?<=[.;:]) (?=[A-Z(\"])")) {
            if (!part.isBlank()) sentences.add(part.strip());
        }
        return sentences;
    }

    /** A quote may be a part of a sentence, or reach over several. */
    private static boolean isQuoted(String sentence, String line, List<String> quotes) {
        int at = line.indexOf(sentence);
        for (String quote : quotes) {
            if (sentence.contains(quote)) return true;
            int from = line.indexOf(quote);
            if (from >= 0 && from <= at && from + quote.length() >= at + sentence.length() - 1) return true;
        }
        return false;
    }

    private static boolean hasNoBoundary(String sentence) {
        return WITHOUT_BOUNDARY.stream().anyMatch(sentence::contains);
    }
}
