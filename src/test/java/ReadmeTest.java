import java.io.IOException;
import java.nio.file.Files;
import java.nio.file.Path;
import java.util.ArrayList;
import java.util.List;
import java.util.TreeSet;
import java.util.regex.Matcher;
import java.util.regex.Pattern;

/** What README.md says of the class: its example, the calls and their bounds, the tape's lines. */
final class ReadmeTest {
    private static final Due DUE = new Due("ReadmeTest");
    private static final Path SOURCE = Path.of("src/main/java/SeatCast.java");

    /** Two seats, two people, two lines: so few that each bound of the page is its own number. */
    private static final String HOUSE = "house 1 2; part 0 0; one 0 1 0; one 1 1 0; line 0; line 0;";
    private static final int TWO = 2;

    /** The values that an argument may have, and some that it may not. */
    private record Bounds(List<Integer> good, List<Integer> bad) {
    }

    private ReadmeTest() {
    }

    public static void main(String[] args) throws IOException {
        String page = Files.readString(Path.of("README.md"));
        example(page);
        calls(page, Files.readString(SOURCE));
        tape(page);
        DUE.close();
    }

    private static void example(String page) {
        Matcher block = Pattern.compile("(?s)```java\n(.*?)```").matcher(page);
        holds("there is an example", block.find());
        StringBuilder text = new StringBuilder();
        Matcher literal = Pattern.compile("\"([^\"]*)\"").matcher(block.group(1));
        while (literal.find()) {
            text.append(literal.group(1));
        }
        Edges edges = new Edges();
        SeatCast cast = new SeatCast();
        for (int n = 0; n < text.length(); n++) {
            DUE.due(2, "feed() of the example", cast.feed(text.charAt(n)), n + 1);
        }
        int rows = 0;
        Matcher row = Pattern.compile("(?m)^cast\\.(\\w+\\(.*\\)); +// (-?\\d+)").matcher(
                block.group(1));
        while (row.find()) {
            rows++;
            DUE.due(0, "the example's " + row.group(1), edges.ask(cast, row.group(1)),
                    Long.parseLong(row.group(2)));
        }
        holds("the example has calls", rows > 0);
    }

    /** Each call of the source stands in a table, with its arguments, and keeps to its bounds. */
    private static void calls(String page, String source) {
        TreeSet<String> told = new TreeSet<>();
        Matcher rows = Pattern.compile("(?m)^\\| `(\\w+)\\(([^)]*)\\)` \\| ([^|]*)\\|").matcher(page);
        while (rows.find()) {
            String name = rows.group(1);
            told.add(name + "(" + rows.group(2) + ")");
            String[] names = split(rows.group(2));
            String[] bounds = split(rows.group(3));
            holds(name + " tells a bound of each argument", names.length == bounds.length);
            List<Bounds> all = new ArrayList<>();
            for (int n = 0; n < names.length && n < bounds.length; n++) {
                holds(name + " tells of " + names[n], bounds[n].startsWith(names[n] + " "));
                all.add(boundsOf(bounds[n].substring(names[n].length() + 1)));
            }
            for (int n = 0; n < all.size(); n++) {
                keepsTo(name, all, n);
            }
        }
        TreeSet<String> stand = new TreeSet<>();
        Matcher methods = Pattern.compile("(?m)^    public (?:int|long) (\\w+)\\(([^)]*)\\)")
                .matcher(source);
        while (methods.find()) {
            stand.add(methods.group(1) + "("
                    + methods.group(2).replaceAll("(int|long|boolean) ", "") + ")");
        }
        holds("the page tells the calls " + stand + ", not " + told, stand.equals(told));
    }

    private static void keepsTo(String name, List<Bounds> all, int n) {
        for (int value : all.get(n).good) {
            String call = call(name, all, n, value);
            holds(call + " is not BAD", new Edges().ask(rich(), call) != SeatCast.BAD);
        }
        for (int value : all.get(n).bad) {
            String call = call(name, all, n, value);
            DUE.due(0, call, new Edges().ask(rich(), call), SeatCast.BAD);
        }
    }

    /** A call with a value for one argument and good ones, other than that one, for the others. */
    private static String call(String name, List<Bounds> all, int n, int value) {
        StringBuilder text = new StringBuilder(name).append('(');
        for (int m = 0; m < all.size(); m++) {
            List<Integer> good = all.get(m).good;
            int other = good.get(0) != value ? good.get(0) : good.get(1);
            text.append(m == 0 ? "" : ", ").append(m == n ? value : other);
        }
        return text.append(')').toString();
    }

    private static Bounds boundsOf(String told) {
        boolean none = told.endsWith(" or NONE");
        String words = none ? told.substring(0, told.length() - " or NONE".length()) : told;
        switch (words) {
            case "a seat":
            case "a one":
            case "another one":
            case "a line":
                return between(0, TWO - 1, none);
            case "0 or 10 and a one":
                return new Bounds(List.of(0, 10, 9 + TWO), List.of(-1, 1, 9, 10 + TWO));
            case "bits of people":
                return between(0, (1 << TWO) - 1, none);
            case "true or false":
                return new Bounds(List.of(0, 1), List.of());
            case "any":
                return new Bounds(List.of(0, 1, -1, Integer.MIN_VALUE, Integer.MAX_VALUE),
                        List.of());
            case "at most 40":
                return new Bounds(List.of(0, 40, -1, Integer.MIN_VALUE), List.of(41));
            case "0 to count(2)":
            case "0 to count(4)":
                return between(0, TWO, none);
            default:
                String[] ends = words.split(" to ");
                return between(Integer.parseInt(ends[0]), Integer.parseInt(ends[1]), none);
        }
    }

    private static Bounds between(int low, int high, boolean none) {
        List<Integer> good = new ArrayList<>(List.of(low, high));
        List<Integer> bad = new ArrayList<>(List.of(low - 1, high + 1, Integer.MIN_VALUE,
                Integer.MAX_VALUE));
        (none ? good : bad).add(SeatCast.NONE);
        return new Bounds(good, bad);
    }

    /** Two of each: seats, people, lines, bytes on the tape, seen, images. */
    private static SeatCast rich() {
        SeatCast cast = Due.told(HOUSE);
        for (int n = 0; n < TWO; n++) {
            cast.feed(';');
            cast.see(n, n);
            cast.keep(n);
        }
        return cast;
    }

    /** The bounds, how often a line may be told, and the faults, as the page's table has them. */
    private static void tape(String page) {
        String[] good = {"house 1 2;", "house 3 4;", "house 3 4; part 11 5;", "one 0 5 9 0;",
            "away 0 0; away 5 9; away 0 0 3; one 5 0 0 0 1 2 3;", "line 0; line 5; scene 0;",
            "line0;scene0;line0;scene0;line0;scene0;line0;scene0;", "soft;", ""};
        for (String text : good) {
            holds("'" + text + "' is taken", Due.tell(new SeatCast(), text) >= 0);
        }
        String[] faults = {"1#", "1house 123 2;", "2 house 1;", "2seat 1;", "3house 4 2;",
            "3house 1 5;", "3part 12 0;", "3part 0 6;", "3one 0 6 0;", "3one 0 0 10;",
            "3away 0 0 4;", "3line 6;", "4soft; soft;", "4house 1 2; house 1 2;",
            "4part 0 0; part 0 0;", "4one 0 0 0; one 0 0 0;", "4away 0 0 0 0;",
            "5away0 0;away0 0;away0 0;one0 0 0;away0 0;",
            "5line0;line0;line0;line0;scene0;line0;line0;line0;line0;", "6part 6 0;",
            "6one 6 0 0;", "6away 0 0 1;"};
        for (String fault : faults) {
            SeatCast cast = new SeatCast();
            String text = fault.substring(1);
            holds("'" + text + "' is refused", Due.tell(cast, text) <= -10);
            DUE.due(5, "fault() of '" + text + "'", cast.fault(), fault.charAt(0) - '0');
            holds("the page tells fault " + fault.charAt(0),
                    Pattern.compile("(?s)Faults:.*" + fault.charAt(0) + " ").matcher(page).find());
        }
        for (String line : new String[] {"house R P", "part S K", "one S V C Q..",
            "away V C Q..", "line K", "scene K", "soft"}) {
            holds("the page tells the line " + line, page.contains("| `" + line + " ;` |"));
        }
    }

    private static String[] split(String told) {
        return told.isBlank() ? new String[0] : told.strip().split(", ");
    }

    private static void holds(String what, boolean is) {
        DUE.due(0, what, is ? 1 : 0, 1);
    }
}
