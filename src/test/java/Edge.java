import java.io.IOException;
import java.nio.file.Files;
import java.nio.file.Path;
import java.util.LinkedHashMap;
import java.util.Map;

/**
 * The sentences of the document that name a boundary: each one is quoted as it stands there, ahead of
 * the cases that hold it. A quote that does not stand in its section is wrong, and so is a sentence of
 * a promise that nothing quotes.
 */
final class Edge {
    static final int[] NO_PLACES = {-1, 8, 9, 64, Integer.MIN_VALUE, Integer.MAX_VALUE};
    private static final Map<String, String> SECTIONS = new LinkedHashMap<>();
    private static final Map<String, String> UNQUOTED = new LinkedHashMap<>();
    private static String sentence = "";

    private Edge() {
    }

    static void readDocument() throws IOException {
        String section = "";
        for (String line : Files.readAllLines(Path.of("../shared/DOC.md"))) {
            if (line.startsWith("## ")) {
                section = line.substring(3);
            } else if (line.startsWith("==== ")) {
                section = line.substring(5, line.indexOf('.', 5));
            }
            SECTIONS.merge(section, line + "\n", String::concat);
        }
        for (Map.Entry<String, String> entry : SECTIONS.entrySet()) {
            if (entry.getKey().startsWith("Promise ")) {
                String text = entry.getValue();
                UNQUOTED.put(entry.getKey(), text.substring(text.indexOf("`: ") + 3));
            }
        }
    }

    /** What follows is about these words of a section: "I", "Promise 2: feed" and so on. */
    static void about(String section, String words) {
        House.due(section + " says: " + words, SECTIONS.getOrDefault(section, "").contains(words), true);
        UNQUOTED.computeIfPresent(section, (name, rest) -> rest.replace(words, ""));
        sentence = "[" + section + "] " + words;
    }

    static void due(String call, Object got, Object want) {
        House.due(sentence + "\n    " + call, got, want);
    }

    static void thrown(String call, House.Call made, int want) {
        due(call, House.thrown(made), want);
    }

    /** The FAULT's place is where the stroke stands in the text; without one the text has none. */
    static void fault(int kind, String marked) {
        int place = marked.indexOf('|');
        String text = place < 0 ? marked : marked.substring(0, place) + marked.substring(place + 1);
        LitmusHouse house = new LitmusHouse();
        int got = House.load(house, 0, text);
        due("load of " + text, got < 0, place >= 0);
        due("fault of " + text, house.fault(0) + " at " + house.fault(1), kind + " at " + place);
    }

    static void fine(String text) {
        fault(0, text);
    }

    static void outcomes(String text, int order, String want) {
        due("outcomes " + order + " of " + text, House.outcomes(House.fresh(text), 0, order), want);
    }

    static void everySentenceIsQuoted() {
        House.due("the document has promises 1 to 25", UNQUOTED.size(), 25);
        for (Map.Entry<String, String> entry : UNQUOTED.entrySet()) {
            House.due("what no test quotes of " + entry.getKey(), entry.getValue().trim(), "");
        }
    }
}
