import java.io.IOException;
import java.nio.file.Files;
import java.nio.file.Path;
import java.util.ArrayList;
import java.util.LinkedHashMap;
import java.util.List;
import java.util.Map;

/**
 * Tests that stand under the sentences of the document that they are tests of. It keeps all sentences that were
 * told, so that complete() can tell which ones of the document nobody has read.
 */
final class Sentences {
    /** A call, or some calls, on an object. */
    interface Call {
        int on(FibreLoops x);
    }

    /** A new object in a state of its own, the same one each time. */
    interface World {
        FibreLoops make();
    }

    private final Due due;
    private final Map<String, List<String>> told = new LinkedHashMap<>();
    private String head = "";
    private String sentence = "";
    private int asked = 0;

    Sentences(Due due) {
        this.due = due;
    }

    /** From here on, sentences stand under this head of the document. */
    void under(String newHead) {
        end();
        head = newHead;
        told.put(head, new ArrayList<>());
    }

    /** From here on, tests are tests of this sentence. */
    void says(String newSentence) {
        end();
        sentence = newSentence;
        tell(newSentence);
    }

    /** A sentence that names no boundary case. */
    void tell(String newSentence) {
        told.get(head).add(flat(newSentence));
    }

    /** Ends the tests of the latest sentence, which has to have one at least. */
    void end() {
        if (!sentence.isEmpty()) {
            due.holds("'" + sentence + "' has a test", asked > 0);
        }
        sentence = "";
        asked = 0;
    }

    void is(String call, long got, long want) {
        asked++;
        due.is(head + ", '" + sentence + "': " + call, got, want);
    }

    void holds(String what, boolean held) {
        is(what, held ? 1 : 0, 1);
    }

    /** The call returns an error, and leaves everything as it is with an object on which it was not called. */
    void refuses(String call, World world, Call refused, int error) {
        FibreLoops x = world.make();
        FibreLoops untouched = world.make();
        is(call, refused.on(x), error);
        changesNothing(call, x, untouched);
    }

    private void changesNothing(String call, FibreLoops x, FibreLoops untouched) {
        holds(call + " changes nothing", Everything.withPadAndHistory(x).equals(Everything.withPadAndHistory(untouched)));
        for (int i = 0; i < 7; i++) {
            is(call + ", then undo()", x.undo(), untouched.undo());
            is(call + ", then undo(), count(0)", x.count(0), untouched.count(0));
            is(call + ", then undo(), count(5)", x.count(5), untouched.count(5));
        }
        for (int slot = 0; slot < 2; slot++) {
            is(call + ", then restore(" + slot + ")", x.restore(slot), untouched.restore(slot));
            is(call + ", then restore(" + slot + "), count(5)", x.count(5), untouched.count(5));
        }
        is(call + ", then wipe()", x.wipe(), untouched.wipe());
    }

    /** The call records the state ahead of it, and undo() brings that back. */
    void isAChange(String call, World world, Call change) {
        FibreLoops x = world.make();
        String before = Everything.of(x);
        int undoable = x.count(13);
        holds(call + " is no error", change.on(x) >= 0);
        is(call + ", then count(13)", x.count(13), undoable + 1);
        is(call + ", then undo()", x.undo(), undoable);
        holds(call + ", then undo(), all as before", before.equals(Everything.of(x)));
    }

    /** The call changes nothing that can be asked for, and records nothing. */
    void isNoChange(String call, World world, Call other) {
        FibreLoops x = world.make();
        FibreLoops untouched = world.make();
        other.on(x);
        changesNothing(call, x, untouched);
    }

    private static String flat(String text) {
        return text.replaceAll("\\s+", " ").trim();
    }

    /** Whether every word of the document's terms and promises was told, under its own head. */
    void complete(Path document) throws IOException {
        end();
        Map<String, String> parts = parts(Files.readString(document));
        for (Map.Entry<String, List<String>> entry : told.entrySet()) {
            String part = parts.getOrDefault(entry.getKey(), "");
            for (String one : entry.getValue()) {
                int at = part.indexOf(one);
                due.holds("the document says under '" + entry.getKey() + "': " + one, at >= 0);
                part = at < 0 ? part : part.substring(0, at) + "\n" + part.substring(at + one.length());
            }
            parts.put(entry.getKey(), part);
        }
        for (Map.Entry<String, String> entry : parts.entrySet()) {
            due.holds("'" + entry.getKey() + "' has no other sentence: " + flat(entry.getValue()), flat(entry.getValue()).isEmpty());
        }
    }

    /** The document's text by its heads, from the terms to the last promise, without fences and the dashes of its lists. */
    private static Map<String, String> parts(String document) {
        Map<String, String> parts = new LinkedHashMap<>();
        String head = "";
        for (String line : document.split("\n")) {
            if (line.startsWith("#")) {
                head = line.replaceAll("^#+ ", "");
            } else if (!line.startsWith("```")) {
                parts.merge(head, line.replaceFirst("^- ", ""), (a, b) -> a + " " + b);
            }
        }
        parts.keySet().removeIf(h -> h.equals("FibreLoops") || h.equals("What it is") || h.equals("The public face")
            || h.equals("Not promised") || h.isEmpty());
        parts.replaceAll((h, text) -> flat(text));
        return parts;
    }
}
