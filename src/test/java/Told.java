import java.lang.reflect.Method;
import java.lang.reflect.Modifier;
import java.util.ArrayList;
import java.util.HashMap;
import java.util.List;
import java.util.Map;
import java.util.regex.Matcher;
import java.util.regex.Pattern;

/**
 * An object of NamesBack whose calls are told by words, "road(0, 1, 7)"; LOW and HIGH are the ends of int. It counts
 * its calls: what an object answers behind its 512th is free, so a test that goes on so far is wrong itself.
 */
final class Told {
    static final int LOW = Integer.MIN_VALUE;
    static final int HIGH = Integer.MAX_VALUE;
    /** No numbers of PLACES where there are three or fewer. */
    static final String[] NO_PLACES = {"LOW", "-5", "-2", "-1", "3", "4", "7", "10", "HIGH"};
    private static final int MOST_CALLS = 512;
    private static final Pattern CALL = Pattern.compile("(\\w+)\\(([^)]*)\\)");
    private static final Map<String, Method> FACE = face();

    private final NamesBack x = new NamesBack();
    private int calls = 0;

    private static Map<String, Method> face() {
        Map<String, Method> face = new HashMap<>();
        for (Method m : NamesBack.class.getDeclaredMethods()) {
            if (Modifier.isPublic(m.getModifiers())) {
                face.put(m.getName(), m);
            }
        }
        return face;
    }

    /** An object with so many PLACES of KIND 0, v 0, without PEOPLE. */
    static Told places(int many) {
        Told x = new Told();
        for (int p = 0; p < many; p++) {
            x.runs("place(0, 0, 0)");
        }
        return x;
    }

    /** An object with PLACES of these KINDS, v 0, without PEOPLE. */
    static Told kinds(int... kinds) {
        Told x = new Told();
        for (int kind : kinds) {
            x.runs("place(" + kind + ", 0, 0)");
        }
        return x;
    }

    int calls() {
        return calls;
    }

    long ask(String call) {
        Matcher m = CALL.matcher(call);
        if (!m.matches() || !FACE.containsKey(m.group(1))) {
            throw new IllegalArgumentException("no such call: " + call);
        }
        calls++;
        if (calls > MOST_CALLS) {
            throw new IllegalStateException("more than 512 calls: " + call);
        }
        Method method = FACE.get(m.group(1));
        String[] words = m.group(2).isBlank() ? new String[0] : m.group(2).split(",");
        Class<?>[] types = method.getParameterTypes();
        if (words.length != types.length) {
            throw new IllegalArgumentException("so many numbers: " + call);
        }
        Object[] numbers = new Object[words.length];
        for (int k = 0; k < words.length; k++) {
            long number = number(words[k].trim());
            if (types[k] == int.class) {
                numbers[k] = Math.toIntExact(number);
            } else {
                numbers[k] = number;
            }
        }
        try {
            return ((Number) method.invoke(x, numbers)).longValue();
        } catch (ReflectiveOperationException e) {
            throw new IllegalStateException("it threw: " + call, e);
        }
    }

    private static long number(String word) {
        return word.equals("LOW") ? LOW : word.equals("HIGH") ? HIGH : Long.parseLong(word);
    }

    /** Runs calls that make ready; none of them may be refused. */
    Told runs(String many) {
        Matcher m = CALL.matcher(many);
        while (m.find()) {
            long got = ask(m.group());
            if (got < 0) {
                Check.due(m.group() + ", which makes ready,", got, 0);
            }
        }
        return this;
    }

    /** Runs calls for each pair of so many PLACES; P is the lesser, Q the other. */
    Told pairs(int places, String calls) {
        for (int p = 0; p < places; p++) {
            for (int q = p + 1; q < places; q++) {
                runs(calls.replace("P", "" + p).replace("Q", "" + q));
            }
        }
        return this;
    }

    Told due(String call, long want) {
        Check.due(call, ask(call), want);
        return this;
    }

    /** Each of the calls, with one answer. */
    Told dueAll(long want, String... each) {
        for (String call : each) {
            due(call, want);
        }
        return this;
    }

    Told feeds(String text) {
        for (char sign : text.toCharArray()) {
            runs("feed(" + (int) sign + ")");
        }
        return this;
    }

    /** The text becomes a LAND, the number of which does not matter. */
    Told lands(String text) {
        feeds(text);
        return runs("land()");
    }

    Told dueLand(String text, long want) {
        feeds(text);
        Check.due("land() of " + text, ask("land()"), want);
        return this;
    }

    /** All that can be seen of the object; it has changed then (the text is made a LAND, the image comes back). */
    List<String> whole() {
        List<String> seen = new ArrayList<>();
        see(seen);
        for (int t = 0; t < 6; t++) {
            // there is no place 60: the answer tells only whether there is a row
            note(seen, "item(" + t + ", 60, 1)");
            for (int i = 0; i < 5; i++) {
                note(seen, "read(" + t + ", " + i + ")");
            }
        }
        for (int i = 0; i < 13; i++) {
            note(seen, "trace(" + i + ")");
        }
        note(seen, "land()");
        note(seen, "told(0)");
        for (int p = 0; p < 7; p++) {
            note(seen, "of(" + p + ", 3)");
        }
        note(seen, "undo()");
        see(seen);
        return seen;
    }

    private void see(List<String> seen) {
        for (int what = 0; what < 6; what++) {
            note(seen, "count(" + what + ")");
        }
        note(seen, "told(0)");
        note(seen, "told(1)");
        note(seen, "lost(0)");
        note(seen, "lost(1)");
        int places = (int) ask("count(0)");
        for (int p = 0; p < places; p++) {
            for (int what = 0; what < 6; what++) {
                note(seen, "of(" + p + ", " + what + ")");
            }
            for (int q = 0; q < p; q++) {
                note(seen, "far(" + p + ", " + q + ")");
            }
            note(seen, "gets(" + p + ")");
            note(seen, "looked(" + p + ")");
        }
    }

    private void note(List<String> seen, String call) {
        seen.add(call + " " + ask(call));
    }
}
