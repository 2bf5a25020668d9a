import java.io.IOException;
import java.lang.reflect.Constructor;
import java.lang.reflect.Field;
import java.lang.reflect.Method;
import java.lang.reflect.Modifier;
import java.nio.file.Files;
import java.nio.file.Path;
import java.util.ArrayList;
import java.util.List;
import java.util.Map;
import java.util.TreeMap;
import java.util.TreeSet;
import java.util.regex.Matcher;
import java.util.regex.Pattern;

/** The public face, and the rules of LANGUAGE.md that can be read off the class and its source. */
final class LanguageTest {
    private static final Due DUE = new Due("LanguageTest");
    private static final Path SOURCE = Path.of("src/main/java/SeatCast.java");

    private static final String[] FACE = {"int feed(int)", "int end(int)", "int text()",
        "int fault()", "int rule(int)", "int seat(int,int)", "int one(int,int)",
        "int line(int,int)", "int sit(int,int)", "int swap(int,int)", "int part(int,int)",
        "int voice(int,int)", "int comes(int,int)", "int feud(int,int,boolean)", "int law(int)",
        "int opens(int,boolean)", "int far(int,int)", "int heard(int)", "int speaks(int)",
        "int night(int)", "int says(int)", "int best(int)", "int change(int)",
        "int role(int,int)", "int cut(int)", "int louder(int,int)", "int peace(int)",
        "int without(int)", "int row(int)", "long share(int,int)", "long mean(int,int)",
        "long luck(int,int,int)", "int see(int,int)", "int forget(int)", "int fits(int)",
        "int drift(int,int,int)", "int keep(int)", "int back(int)", "int sheet(int,int,int)",
        "int lay(int,int,int)", "int read(int,int,int,int)", "int torn()", "int count(int)"};

    public static void main(String[] args) throws IOException {
        face();
        nestedClasses();
        String code = codeOf(Files.readString(SOURCE));
        words(code);
        library(code);
        newIsForConstructors(code);
        methods(code);
        DUE.close();
    }

    private static void face() {
        Class<SeatCast> cast = SeatCast.class;
        holds("a public final class", Modifier.isPublic(cast.getModifiers())
                && Modifier.isFinal(cast.getModifiers()));
        TreeSet<String> methods = new TreeSet<>();
        TreeSet<String> names = new TreeSet<>();
        TreeSet<String> hidden = new TreeSet<>();
        for (Method m : cast.getDeclaredMethods()) {
            if (Modifier.isPrivate(m.getModifiers())) {
                hidden.add(m.getName());
            } else {
                StringBuilder text = new StringBuilder(m.getReturnType() + " " + m.getName() + "(");
                for (Class<?> type : m.getParameterTypes()) {
                    text.append(text.charAt(text.length() - 1) == '(' ? "" : ",").append(type);
                }
                methods.add(text.append(')').toString());
                names.add(m.getName());
                holds(m.getName() + " is public", Modifier.isPublic(m.getModifiers()));
            }
        }
        holds("the document's methods and no others", methods.equals(new TreeSet<>(List.of(FACE))));
        hidden.retainAll(names);
        holds("no private method bears a public one's name: " + hidden, hidden.isEmpty());
        Constructor<?>[] constructors = cast.getDeclaredConstructors();
        holds("one constructor", constructors.length == 1
                && Modifier.isPublic(constructors[0].getModifiers()));
        TreeSet<String> constants = new TreeSet<>();
        for (Field f : cast.getDeclaredFields()) {
            if (!Modifier.isPrivate(f.getModifiers())) {
                constants.add(f.getName());
            }
            holds(f.getName() + ", if static, is final",
                    !Modifier.isStatic(f.getModifiers()) || Modifier.isFinal(f.getModifiers()));
        }
        holds("the document's constants and no others: " + constants,
                constants.equals(new TreeSet<>(List.of("BAD", "STATE", "FULL", "NONE"))));
    }

    private static void nestedClasses() {
        Class<?>[] nested = SeatCast.class.getDeclaredClasses();
        holds("some twelve classes at most", nested.length <= 12);
        List<Class<?>> all = new ArrayList<>(List.of(nested));
        all.add(SeatCast.class);
        for (Class<?> type : all) {
            if (type != SeatCast.class) {
                holds(type.getSimpleName() + " is static", Modifier.isStatic(type.getModifiers()));
            }
            int fields = 0;
            for (Field f : type.getDeclaredFields()) {
                fields += Modifier.isStatic(f.getModifiers()) ? 0 : 1;
            }
            holds(type.getSimpleName() + " has some twenty fields at most", fields <= 20);
            for (Method m : type.getDeclaredMethods()) {
                holds(m.getName() + " has seven parameters at most", m.getParameterCount() <= 7);
            }
        }
    }

    private static void words(String code) {
        String[] forbidden = {"throw", "throws", "try", "catch", "finally", "synchronized",
            "assert", "package", "import", "equals", "hashCode", "var", "goto", "native",
            "volatile", "transient", "protected", "strictfp", "instanceof", "record"};
        for (String word : forbidden) {
            holds("no " + word, !Pattern.compile("\\b" + word + "\\b").matcher(code).find());
        }
        holds("no lambda", !code.contains("->"));
        holds("no method reference", !code.contains("::"));
        holds("signs 1 to 127 alone", code.chars().allMatch(c -> c >= 1 && c <= 127));
        // each while has a counter against a bound in its head
        Matcher loops = Pattern.compile("while \\(([^\\n]*)").matcher(code);
        while (loops.find()) {
            holds("a bound in " + loops.group(), loops.group(1).contains("next < tape.length"));
        }
    }

    private static void library(String code) {
        TreeSet<String> used = new TreeSet<>();
        Matcher calls = Pattern.compile("\\b[A-Z][A-Za-z]+\\.[a-z][A-Za-z]*").matcher(code);
        while (calls.find()) {
            used.add(calls.group());
        }
        TreeSet<String> allowed = new TreeSet<>(List.of("Integer.bitCount", "Math.abs",
                "System.arraycopy"));
        used.removeAll(allowed);
        holds("nothing of the library but what is known: " + used, used.isEmpty());
    }

    /** What a run of calls makes is nothing: all rows are made in constructors and fields. */
    private static void newIsForConstructors(String code) {
        String outside = code.replaceFirst("(?s)public SeatCast\\(\\) \\{.*?\\n    \\}\\n", "");
        for (String line : outside.split("\n")) {
            holds("made in a field: " + line.strip(), !line.matches(".*\\bnew\\b.*")
                    || line.matches(" +private final [A-Za-z\\[\\]]+ [a-zA-Z]+ = new .*;"));
        }
    }

    /** Methods stay short, none calls itself by any way, and calls go at most eight deep. */
    private static void methods(String code) {
        Map<String, String> bodies = new TreeMap<>();
        Matcher starts = Pattern.compile("(?m)^( +)(?:[a-z]+ )*[A-Za-z\\[\\]]+ ([a-z][A-Za-z]*)"
                + "\\([^;{]*\\) \\{$").matcher(code);
        while (starts.find()) {
            if (starts.group().matches("(?s) +(else|new|return|for|if|while|switch)\\b.*")) {
                continue;
            }
            int end = code.indexOf("\n" + starts.group(1) + "}", starts.end());
            String body = code.substring(starts.end(), end);
            holds(starts.group(2) + " is short", body.split("\n").length <= 60);
            // two of one name count as one that calls all that either does
            bodies.merge(starts.group(2), body, String::concat);
        }
        holds("the document's methods are found", bodies.size() > FACE.length);
        for (String name : bodies.keySet()) {
            int depth = depthOf(name, bodies, 1);
            holds(name + " goes " + depth + " deep", depth <= 8);
        }
    }

    private static int depthOf(String name, Map<String, String> bodies, int depth) {
        int deepest = depth;
        if (depth > 8) {
            return depth;
        }
        Matcher calls = Pattern.compile("\\b([a-z][A-Za-z]*)\\(").matcher(bodies.get(name));
        while (calls.find()) {
            if (bodies.containsKey(calls.group(1))) {
                deepest = Math.max(deepest, depthOf(calls.group(1), bodies, depth + 1));
            }
        }
        return deepest;
    }

    /** The source without its comments and the insides of its texts. */
    private static String codeOf(String source) {
        return source.replaceAll("(?s)/\\*.*?\\*/", "").replaceAll("//[^\n]*", "")
                .replaceAll("\"[^\"\n]*\"", "\"\"");
    }

    private static void holds(String rule, boolean is) {
        DUE.due(0, rule, is ? 1 : 0, 1);
    }
}
