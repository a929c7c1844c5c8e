import java.io.IOException;
import java.io.UncheckedIOException;
import java.nio.file.Files;
import java.nio.file.Path;
import java.util.ArrayList;
import java.util.LinkedHashMap;
import java.util.List;
import java.util.Map;

/** The sentences of the document, or the parts of them between semicolons, by the heading under which they stand. */
final class Document {
    private final Map<String, List<String>> sentences = new LinkedHashMap<>();
    private String place = "";

    private Document() {
    }

    static Map<String, List<String>> sentences() {
        Document document = new Document();
        for (String block : read().replaceAll("(?s)```.*?```", "").split("\n\\s*\n")) {
            document.addBlock(block.strip());
        }
        return document.sentences;
    }

    private static String read() {
        try {
            return Files.readString(Path.of("../shared/DOC.md"));
        } catch (IOException e) {
            throw new UncheckedIOException(e);
        }
    }

    private void addBlock(String block) {
        if (block.startsWith("#")) {
            place = block.replaceAll("#+ ", "").replaceAll(":.*", "");
        } else if (block.matches("[1-6]\\. .*")) {
            place = "Section " + block.charAt(0);
        } else if (!block.startsWith("`") && !block.startsWith("---- ")) {
            for (String part : block.split("\n(?=- |text = |line = |[1-6]: )")) {
                addSentences(part.replaceAll("\\s+", " "));
            }
        }
    }

    private void addSentences(String part) {
        for (String sentence : part.split("(?<=\\.) (?=[A-Z])|(?<=;) ")) {
            sentences.computeIfAbsent(place, key -> new ArrayList<>()).add(sentence);
        }
    }
}
