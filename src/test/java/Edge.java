import java.io.IOException;
import java.nio.file.Files;
import java.nio.file.Path;
import java.util.ArrayList;
import java.util.LinkedHashMap;
import java.util.List;
import java.util.Map;

/**
 * What the tests of edges share: each names where in the document a sentence stands, and the sentence that it holds.
 * The words are looked up there, and at the end all that tells an edge must have been named by some test.
 */
abstract class Edge {
    static final int MIN = Integer.MIN_VALUE;
    static final int MAX = Integer.MAX_VALUE;
    static final int NORTH = 0;
    static final int EAST = 1;
    static final int SOUTH = 2;
    static final int WEST = 3;

    private static final Map<String, String> SECTIONS = new LinkedHashMap<>();
    private static final Map<String, boolean[]> NAMED = new LinkedHashMap<>();
    private static String here;
    private static int edges;
    private static int asked;

    // ---- The document

    static void open(String root) throws IOException {
        String doc = Files.readString(Path.of(root, "../shared/DOC.md")).replaceAll("\\s+", " ");
        List<String> names = new ArrayList<>(List.of("What it is", "The public face"));
        List<String> marks = new ArrayList<>(List.of("An object is used ", "## The public face "));
        String[] terms = {"I", "II", "III", "IV", "V"};
        for (String term : terms) {
            names.add("Terms " + term);
            marks.add("==== " + term + ". ");
        }
        for (int i = 1; i <= 44; i++) {
            names.add("Promise " + i);
            marks.add("## Promise " + i + ": ");
        }
        marks.add("## Not promised ");
        for (int i = 0; i < names.size(); i++) {
            int from = doc.indexOf(marks.get(i));
            int to = doc.indexOf(marks.get(i + 1));
            Due.due("the document has a part " + names.get(i), from >= 0 && to > from, true);
            String text = from >= 0 && to > from ? doc.substring(from + marks.get(i).length(), to) : "";
            // A promise begins with the method's name and signature.
            text = text.substring(text.indexOf("`: ") + 1);
            SECTIONS.put(names.get(i), text);
            NAMED.put(names.get(i), new boolean[text.length()]);
        }
    }

    /** The tests from here on hold this sentence, as it stands at this place of the document. */
    static void edge(String where, String sentence) {
        endEdge();
        here = where + " '" + sentence + "'";
        edges++;
        asked = 0;
        int from = SECTIONS.getOrDefault(where, "").indexOf(sentence);
        Due.due(here + " stands in the document", from >= 0, true);
        boolean[] named = NAMED.getOrDefault(where, new boolean[0]);
        boolean isNew = false;
        for (int i = Math.max(0, from); i < from + sentence.length(); i++) {
            isNew |= !named[i];
            named[i] = true;
        }
        Due.due(here + " has a test of its own", isNew, true);
    }

    static void endEdge() {
        if (here != null) {
            Due.due(here + " was tried", asked > 0, true);
        }
        here = null;
    }

    /** What no test named must tell no edge: no number, no refusal. */
    static void dueAllNamed() {
        endEdge();
        for (Map.Entry<String, String> section : SECTIONS.entrySet()) {
            boolean[] named = NAMED.get(section.getKey());
            boolean isTried = false;
            for (boolean one : named) {
                isTried |= one;
            }
            Due.due(section.getKey() + " has a test", isTried, true);
            // The signatures stand between such signs, and so do the Terms, as blocks.
            boolean hidesCode = !section.getKey().startsWith("Terms");
            StringBuilder rest = new StringBuilder();
            boolean isCode = false;
            for (int i = 0; i < named.length; i++) {
                char c = section.getValue().charAt(i);
                isCode ^= hidesCode && c == '`';
                rest.append(named[i] ? '~' : isCode ? '`' : c);
            }
            for (String part : rest.toString().split("~+")) {
                boolean tells = part.matches(".*([0-9]|NONE|true|false|nothing|at most|at least|most|least|above|below|only"
                        + "|once|twice|fewest|greatest|longest|already|without|else|none|empty).*");
                Due.due("a test names the edge in " + section.getKey() + ": " + part, tells, false);
            }
        }
        System.out.println("EdgesTest: " + edges + " sentences, each with a test of its own");
    }

    static void due(String call, long got, long want) {
        asked++;
        Due.due(here + ": " + call, got, want);
    }

    static void due(String call, boolean got, boolean want) {
        due(call, got ? 1 : 0, want ? 1 : 0);
    }

    // ---- Texts

    static TypeLock told(String text) {
        TypeLock lock = new TypeLock();
        due("read() of " + text, Due.read(lock, text), 0);
        return lock;
    }

    static void fault(String text, int number, int place) {
        TypeLock lock = new TypeLock();
        due("read() of " + text, Due.read(lock, text), number);
        due("place() of " + text, lock.place(), place);
    }

    static void good(String text) {
        fault(text, 0, -1);
    }

    /** Twenty bytes in one call. */
    static int feed(TypeLock lock, String twenty) {
        byte[] bytes = Due.bytes(twenty);
        int[] five = new int[5];
        for (int i = 0; i < 20; i++) {
            five[i / 4] = five[i / 4] << 8 | bytes[i] & 255;
        }
        return lock.feed(five[0], five[1], five[2], five[3], five[4]);
    }

    /** Whether a COND holds for a THING 3 by 5 that lies at 7, 11; one WEDGE of two is tight. */
    static void holds(String condition, boolean want) {
        TypeLock lock = told("block a 3 5;wedge west 0 2;wedge east 0 2;rule if " + condition + ";");
        lay(lock, 0, 7, 11, 0);
        due("tight(1)", lock.tight(1, true), true);
        due("judge() by " + condition, lock.judge(), want ? 0 : -2);
        due("breaks(0) by " + condition, lock.breaks(0), want ? 1 : 0);
    }

    // ---- THINGS

    /** Lays THINGS, told as KIND, x, y, turned. */
    static void lay(TypeLock lock, int... told) {
        for (int i = 0; i < told.length; i += 4) {
            int number = lock.count(3);
            due("lay(" + told[i] + ", " + told[i + 1] + ", " + told[i + 2] + ")",
                    lock.lay(told[i], told[i + 1], told[i + 2], told[i + 3] == 1), number);
        }
    }

    /**
     * Lays a THING in a FRAME of 60 by 60 so that its told broad side stands towards a side, this many points of
     * that side ahead of it and this many points away from it.
     */
    static void layAt(TypeLock lock, int side, int kind, int ahead, int away) {
        int deep = lock.kind(kind, 1);
        boolean isAcross = side == EAST || side == WEST;
        int far = side == EAST || side == SOUTH ? 60 - away - deep : away;
        lay(lock, kind, isAcross ? far : ahead, isAcross ? ahead : far, isAcross ? 0 : 1);
    }

    static String sideName(int side) {
        return new String[] {"north", "east", "south", "west"}[side];
    }

    /** What a refused call must leave as it was. */
    static String state(TypeLock lock) {
        StringBuilder state = new StringBuilder();
        for (int what = 0; what <= 10; what++) {
            state.append(lock.count(what)).append(' ');
        }
        for (int kind = 0; kind < Math.min(3, lock.count(0)); kind++) {
            state.append(lock.count(20 + kind)).append(' ').append(lock.kind(kind, 1)).append(' ');
        }
        for (int i = 0; i < Math.min(3, lock.count(3)); i++) {
            for (int what = 0; what < 6; what++) {
                state.append(lock.thing(i, what)).append(' ');
            }
            state.append(lock.pushed(i, NORTH)).append(lock.pushed(i, WEST)).append(lock.gives(i)).append(' ');
        }
        for (int slot = 0; slot < 3; slot++) {
            state.append(lock.tuesday(slot, 0)).append(lock.tuesday(slot, 1)).append(lock.tuesday(slot, 2)).append(' ');
        }
        return state.append(lock.empty()).append(' ').append(lock.judge()).append(' ')
                .append(lock.worst(lock.count(4))).append(' ').append(lock.lack(0, 0, lock.count(4))).toString();
    }

    static void dueSame(String what, TypeLock lock, String before) {
        String after = state(lock);
        due(what + " changes nothing: " + before + " | " + after, after.equals(before), true);
    }
}
