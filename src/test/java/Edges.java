import java.lang.reflect.InvocationTargetException;
import java.lang.reflect.Method;
import java.lang.reflect.Modifier;
import java.util.ArrayList;
import java.util.HashMap;
import java.util.IdentityHashMap;
import java.util.List;
import java.util.Map;
import java.util.regex.Matcher;
import java.util.regex.Pattern;

/**
 * Checks of single sentences: each names its promise (0: the terms) and the words of the document
 * that it holds the class to. Calls are written as the document writes them: "sit(0, NONE) = 2".
 */
final class Edges {
    /** Behind so many calls an object's answers are free. */
    private static final int MOST_CALLS = 512;
    private static final Pattern CALL = Pattern.compile("(\\w+)\\(([^)]*)\\)(?: = (\\S+))?");
    private static final Map<String, Method> METHODS = methods();
    private static final Map<String, Integer> NAMED = Map.of("BAD", -1, "STATE", -2, "FULL", -3,
            "NONE", -4, "MIN", Integer.MIN_VALUE, "MAX", Integer.MAX_VALUE, "false", 0, "true", 1);

    /** A promise and words of it that were checked. */
    static final class Sentence {
        final int promise;
        final String words;
        private int checks;

        Sentence(int promise, String words) {
            this.promise = promise;
            this.words = words;
        }
    }

    private final List<Sentence> sentences = new ArrayList<>();
    private final Map<SeatCast, Integer> callsOf = new IdentityHashMap<>();
    private Sentence now;
    private int right;
    private int wrong;

    private static Map<String, Method> methods() {
        Map<String, Method> found = new HashMap<>();
        for (Method m : SeatCast.class.getDeclaredMethods()) {
            if (Modifier.isPublic(m.getModifiers())) {
                found.put(m.getName(), m);
            }
        }
        return found;
    }

    /** What is checked from here on holds these words of a promise. */
    void sentence(int promise, String words) {
        now = new Sentence(promise, words);
        sentences.add(now);
        callsOf.clear();
    }

    List<Sentence> sentences() {
        return sentences;
    }

    void due(String call, long got, long want) {
        now.checks++;
        if (got == want) {
            right++;
            return;
        }
        wrong++;
        System.out.println("promise " + now.promise + ", '" + now.words + "': " + call
                + " answered " + got + ", due is " + want);
    }

    /** Calls on an object, each with the answer that is due. */
    void calls(SeatCast x, String... rows) {
        for (String row : rows) {
            Matcher m = CALL.matcher(row);
            if (!m.matches() || m.group(3) == null) {
                throw new IllegalArgumentException("no call with its answer: " + row);
            }
            due(row.substring(0, row.indexOf(" = ")), ask(x, row), number(m.group(3)));
        }
    }

    /** What a call answers. */
    long ask(SeatCast x, String call) {
        Matcher m = CALL.matcher(call);
        if (!m.matches() || !METHODS.containsKey(m.group(1))) {
            throw new IllegalArgumentException("no call: " + call);
        }
        String[] told = m.group(2).isEmpty() ? new String[0] : m.group(2).split(", ");
        Method method = METHODS.get(m.group(1));
        Class<?>[] types = method.getParameterTypes();
        if (types.length != told.length) {
            throw new IllegalArgumentException("not so many arguments: " + call);
        }
        Object[] arguments = new Object[told.length];
        for (int n = 0; n < told.length; n++) {
            int value = (int) number(told[n]);
            arguments[n] = types[n] == boolean.class ? (Object) (value != 0) : (Object) value;
        }
        count(x);
        try {
            return ((Number) method.invoke(x, arguments)).longValue();
        } catch (InvocationTargetException e) {
            throw new IllegalStateException(call + " threw", e.getCause());
        } catch (IllegalAccessException e) {
            throw new IllegalStateException(call, e);
        }
    }

    private void count(SeatCast x) {
        if (callsOf.merge(x, 1, Integer::sum) > MOST_CALLS) {
            throw new IllegalStateException("the test itself calls too often: " + now.words);
        }
    }

    private static long number(String told) {
        return NAMED.containsKey(told) ? NAMED.get(told) : Long.parseLong(told);
    }

    /** Feeds a text and has it told. */
    long tell(SeatCast x, String text) {
        for (int n = 0; n < text.length(); n++) {
            ask(x, "feed(" + (int) text.charAt(n) + ")");
        }
        return ask(x, "text()");
    }

    /** A new object that was told a text without a fault. */
    SeatCast told(String text) {
        SeatCast x = new SeatCast();
        long answer = tell(x, text);
        if (answer < 0) {
            throw new IllegalStateException("the test's own text has a fault: " + answer);
        }
        return x;
    }

    /** A text that is taken, of so many lines. */
    SeatCast taken(String text, int lines) {
        SeatCast x = new SeatCast();
        due("text() of '" + text + "'", tell(x, text), lines);
        due("fault() of '" + text + "'", ask(x, "fault()"), 0);
        return x;
    }

    /** A text that has a fault, and its place. */
    void refused(String text, int fault, int place) {
        SeatCast x = new SeatCast();
        due("text() of '" + text + "'", tell(x, text), -10 - place);
        due("fault() of '" + text + "'", ask(x, "fault()"), fault);
    }

    /** Prints how it went; exits with 1 if an answer was not as due or a sentence has no check. */
    void close() {
        for (Sentence s : sentences) {
            if (s.checks == 0) {
                wrong++;
                System.out.println("promise " + s.promise + ", '" + s.words + "': not checked");
            }
        }
        System.out.println("EdgeTest: " + sentences.size() + " sentences, " + right
                + " answers as due, " + wrong + " not");
        if (wrong != 0 || right == 0) {
            System.exit(1);
        }
    }
}
