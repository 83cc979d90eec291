import java.util.ArrayList;
import java.util.LinkedHashMap;
import java.util.List;
import java.util.Map;
import java.util.function.Consumer;

/**
 * Reads out all that a house holds, in parts. Some parts can only be seen by calls that change the house
 * (the draft by writing it, the next source by turning to it), and an object has 512 calls; so each part
 * is read from a house of its own.
 */
final class Reading {
    static final Map<String, Consumer<Reading>> PARTS = new LinkedHashMap<>();

    static {
        PARTS.put("counts", Reading::counts);
        PARTS.put("pieces", Reading::pieces);
        PARTS.put("texts", Reading::texts);
        PARTS.put("memory", Reading::memory);
        PARTS.put("nearest and work", Reading::work);
        PARTS.put("releases", Reading::releases);
        PARTS.put("what hands know", Reading::hands);
        PARTS.put("which terms there are", Reading::terms);
        PARTS.put("own words of terms", Reading::ownWords);
        PARTS.put("draft", Reading::draft);
        PARTS.put("next one", Reading::next);
        PARTS.put("kept source", Reading::keptSource);
        PARTS.put("kept memory", Reading::keptMemory);
    }

    private final GlossHouse house;
    private final List<Integer> answers = new ArrayList<>();

    private Reading(GlossHouse house) {
        this.house = house;
    }

    static List<Integer> of(String part, GlossHouse house) {
        Reading reading = new Reading(house);
        PARTS.get(part).accept(reading);
        return reading.answers;
    }

    private int ask(String call, int... arguments) {
        int answer = Calls.ask(house, call, arguments);
        answers.add(answer);
        return answer;
    }

    private void counts() {
        for (int what = 0; what <= 11; what++) {
            ask("many", what);
        }
        for (int hand = 0; hand < 5; hand++) {
            ask("hours", hand, 0);
        }
        ask("limit", 1);
    }

    private void pieces() {
        int count = ask("many", 0);
        for (int p = 0; p < count; p++) {
            ask("of", p, 0);
            int size = ask("of", p, 1);
            for (int i = 0; i < size; i++) {
                ask("of", p, 10 + i);
            }
            ask("from", p);
            ask("story", p);
            for (int q = 0; q < count; q++) {
                ask("far", p, q);
            }
        }
    }

    private void texts() {
        int count = ask("many", 0);
        for (int p = 0; p < count; p++) {
            for (int t = 0; t < 3; t++) {
                ask("text", p, t, 0);
                ask("text", p, t, 1);
                int size = ask("text", p, t, 2);
                for (int i = 0; i < size; i++) {
                    ask("text", p, t, 10 + i);
                }
                ask("fault", p, t);
            }
        }
    }

    private void memory() {
        int count = ask("many", 5);
        for (int k = 0; k < count; k++) {
            ask("memory", k, 0);
            int ofPiece = ask("memory", k, 1);
            int ofText = ask("memory", k, 2);
            for (int i = 0; i < ofPiece; i++) {
                ask("memory", k, 10 + i);
            }
            for (int i = 0; i < ofText; i++) {
                ask("memory", k, 20 + i);
            }
        }
    }

    private void work() {
        int count = ask("many", 0);
        for (int t = 0; t < 3; t++) {
            for (int p = 0; p < count; p++) {
                for (int what = 0; what <= 2; what++) {
                    ask("nearest", p, t, what);
                }
                ask("effort", p, t);
                ask("plan", t, p);
            }
            for (int what = 0; what <= 2; what++) {
                ask("planned", t, what);
            }
        }
    }

    private void releases() {
        for (int t = 0; t < 3; t++) {
            int size = ask("many", 9 + t);
            for (int i = 0; i < size; i++) {
                ask("release", t, i);
            }
        }
    }

    private void hands() {
        for (int hand = 0; hand < 5; hand++) {
            for (int t = 0; t < 3; t++) {
                ask("reuse", 0, t, hand);
            }
        }
    }

    private void terms() {
        for (int word = 0; word <= 99; word++) {
            for (int t = 0; t < 3; t++) {
                ask("forget", word, t);
            }
        }
    }

    /** The houses of these tests have 210 + w for the word w, and a hand 0 that knows every tongue. */
    private void ownWords() {
        ask("scrap");
        ask("drop");
        for (int word = 0; word < 8; word++) {
            ask("sign", word);
            ask("piece", 0);
        }
        ask("turn");
        for (int word = 0; word < 8; word++) {
            for (int t = 0; t < 3; t++) {
                ask("sign", 210 + word);
                ask("write", word, t, 0);
                ask("fault", word, t);
            }
        }
    }

    /** A draft is seen as a text or, if it can't be one, as a piece. */
    private void draft() {
        ask("many", 2);
        ask("write", 0, 0, 0);
        texts();
        ask("drop");
        ask("piece", 0);
        ask("turn");
        pieces();
        ask("scrap");
    }

    private void next() {
        ask("turn");
        pieces();
        texts();
    }

    private void keptSource() {
        ask("back");
        pieces();
        texts();
    }

    private void keptMemory() {
        ask("back");
        memory();
    }
}
