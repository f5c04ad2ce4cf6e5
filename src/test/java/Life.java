import java.lang.reflect.Method;
import java.lang.reflect.Modifier;
import java.util.HashMap;
import java.util.Map;

/** An object whose calls are counted: each is told as a text, "hay(1, 5)", so that none goes uncounted. */
final class Life {
    /** The document tells nothing of an object behind so many calls. */
    static final int LAST = 512;

    private static final Map<String, Method> FACE = face();

    private final GridQuarrels x = new GridQuarrels();
    private final Due due;
    private int calls;

    Life(Due due) {
        this.due = due;
    }

    private static Map<String, Method> face() {
        Map<String, Method> face = new HashMap<>();
        for (Method m : GridQuarrels.class.getDeclaredMethods()) {
            if (Modifier.isPublic(m.getModifiers())) {
                face.put(m.getName(), m);
            }
        }
        return face;
    }

    int calls() {
        return calls;
    }

    int left() {
        return LAST - calls;
    }

    long call(String text) {
        if (left() == 0) {
            throw new IllegalStateException(text + " would be a call too many");
        }
        calls++;
        int bracket = text.indexOf('(');
        String numbers = text.substring(bracket + 1, text.length() - 1);
        String[] each = numbers.isEmpty() ? new String[0] : numbers.split(", ");
        Object[] given = new Object[each.length];
        for (int i = 0; i < each.length; i++) {
            given[i] = Integer.valueOf(each[i]);
        }
        try {
            return ((Number) FACE.get(text.substring(0, bracket)).invoke(x, given)).longValue();
        } catch (ReflectiveOperationException e) {
            throw new IllegalStateException(text, e);
        }
    }

    void calls(String... texts) {
        for (String text : texts) {
            call(text);
        }
    }

    void is(String text, long want) {
        long answer = call(text);
        due.is("call " + calls + ", " + text, answer, want);
    }

    void feed(String letters) {
        for (int i = 0; i < letters.length(); i++) {
            call("feed(" + (int) letters.charAt(i) + ")");
        }
    }

    /** Feeds a text and has it read. */
    long tell(String letters) {
        feed(letters);
        return call("county()");
    }

    /** Goes through these calls again and again, until so many are left. */
    void spend(int left, String... texts) {
        for (int i = 0; left() > left; i++) {
            call(texts[i % texts.length]);
        }
    }
}
