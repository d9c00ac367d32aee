import java.util.ArrayList;
import java.util.HashSet;
import java.util.List;
import java.util.Set;
import java.util.regex.Matcher;
import java.util.regex.Pattern;

/** What end() answers of a text on a new object, read in the plainest way: the first wrong thing throws. */
final class TextModel {
    private static final Pattern LINE = Pattern.compile(
            "(?:(tank) (N)|(pump)|(valve) (N)|(pipe) (-|N) (-|N) (N))\n".replace("N", "(?:0|[1-9][0-9]{0,6})"));
    private static final Pattern ROW_WORD = Pattern.compile("[();]|[^();\n ]+");
    private static final Pattern WORD = Pattern.compile(
            "[a-z][a-z0-9]{0,11}|[0-9]{1,9}(\\.[0-9]{1,3})?|[{}();+\\-*/<=>]");
    private static final List<String> UNITS = List.of("", "l", "c", "s", "bar", "part");
    private static final Set<String> KEYWORDS = Set.of("l", "c", "s", "bar", "part", "min", "h", "signal", "output", "step",
            "set", "wait", "until", "ramp", "in", "par", "if", "else", "repeat", "limit", "then", "ask", "do", "stop", "hold", "act");

    private static final class Wrong extends RuntimeException {
        private static final long serialVersionUID = 1;
        final int place;

        Wrong(int place) {
            this.place = place;
        }
    }

    static int answer(int kind, String text) {
        try {
            return kind == 0 ? plant(text) : kind == 1 ? new TextModel(text).rows() : new TextModel(text).program();
        } catch (Wrong wrong) {
            return -3 - wrong.place;
        }
    }

    private static int plant(String text) {
        List<Integer> ports = new ArrayList<>();
        int pipes = 0;
        int at = 0;
        while (at < text.length()) {
            int length = 1;
            Matcher line = LINE.matcher(text.substring(at, at + 1));
            while (!line.matches()) {
                if (!line.hitEnd()) {
                    throw new Wrong(at + length - 1);
                }
                if (at + length == text.length()) {
                    throw new Wrong(text.length());
                }
                length++;
                line = LINE.matcher(text.substring(at, at + length));
            }
            int end = at + length - 1;
            if (line.group(6) != null) {
                pipes++;
                demand(pipes <= 24, end);
                for (int side = 7; side <= 8; side++) {
                    if (!line.group(side).equals("-")) {
                        int thing = Integer.parseInt(line.group(side));
                        demand(thing < ports.size() && ports.get(thing) > 0, end);
                        ports.set(thing, ports.get(thing) - 1);
                    }
                }
                int litres = Integer.parseInt(line.group(9));
                demand(litres >= 1 && litres <= 200, end);
            } else {
                demand(ports.size() < 20, end);
                if (line.group(1) != null) {
                    int litres = Integer.parseInt(line.group(2));
                    demand(litres >= 1 && litres <= 100000, end);
                    ports.add(1000);
                } else if (line.group(3) != null) {
                    ports.add(2);
                } else {
                    int kind = Integer.parseInt(line.group(5));
                    demand(kind <= 7, end);
                    ports.add(kind == 1 || kind == 2 ? 3 : kind == 4 ? 4 : kind == 5 ? 1 : 2);
                }
            }
            at += length;
        }
        return ports.size();
    }

    private static void demand(boolean right, int place) {
        if (!right) {
            throw new Wrong(place);
        }
    }

    private final String text;
    private int at;
    private int place;
    private String word;
    private int open;
    // Of programs.
    private int nodes;
    private int statements;
    private final List<String> names = new ArrayList<>();
    private final List<String> kinds = new ArrayList<>();
    private final List<String> units = new ArrayList<>();
    private final List<long[]> sizes = new ArrayList<>();

    private TextModel(String text) {
        this.text = text;
    }

    // Interlocks.
    private List<String> rowWords;
    private int conditions;

    private int rows() {
        rowWords = new ArrayList<>();
        Matcher matcher = ROW_WORD.matcher(text);
        while (matcher.find()) {
            rowWords.add(matcher.group());
        }
        rowWords.add("\n");
        int rows = 0;
        while (!isRow("\n")) {
            demand(isRow("bar") && rows < 40, at);
            at++;
            Set<String> acts = new HashSet<>();
            do {
                demand(isNumbered("a", 31) && acts.add(rowWords.get(at)) && acts.size() <= 8, at);
                at++;
            } while (!isRow("when"));
            at++;
            conditions = 0;
            or();
            if (isRow("for")) {
                at++;
                demand(isNumbered("", 3600), at);
                at++;
            }
            if (isRow("latched")) {
                at++;
            }
            takeRow(";");
            rows++;
        }
        return rows;
    }

    private boolean isRow(String due) {
        return rowWords.get(at).equals(due);
    }

    private boolean isNumbered(String letter, int most) {
        String it = rowWords.get(at);
        return it.matches(letter + "(0|[1-9][0-9]{0,3})") && Integer.parseInt(it.substring(letter.length())) <= most;
    }

    private void takeRow(String due) {
        demand(isRow(due), at);
        at++;
    }

    private void or() {
        and();
        while (isRow("or")) {
            at++;
            and();
        }
    }

    private void and() {
        part();
        while (isRow("and")) {
            at++;
            part();
        }
    }

    private void part() {
        if (isRow("not") || isRow("(")) {
            boolean not = isRow("not");
            open++;
            demand(open <= 20, at);
            at++;
            if (not) {
                part();
            } else {
                or();
                takeRow(")");
            }
            open--;
            return;
        }
        demand(isNumbered("c", 15), at);
        conditions++;
        demand(conditions <= 32, at);
        at++;
    }

    // Programs.
    private void next() {
        while (at < text.length() && " \n".indexOf(text.charAt(at)) >= 0) {
            at++;
        }
        place = at;
        word = "";
        if (at == text.length()) {
            return;
        }
        Matcher matcher = WORD.matcher(text).region(at, text.length());
        demand(matcher.lookingAt(), at);
        word = matcher.group();
        at = matcher.end();
        if (isLetters() || isNumber()) {
            demand(at == text.length() || !("" + text.charAt(at)).matches("[a-z0-9.]"), at);
        }
    }

    private boolean isLetters() {
        return word.matches("[a-z].*");
    }

    private boolean isNumber() {
        return word.matches("[0-9].*");
    }

    private boolean is(String words) {
        return !word.isEmpty() && List.of(words.split(" ")).contains(word);
    }

    private void take(String due) {
        demand(is(due), place);
        next();
    }

    private void node() {
        nodes++;
        demand(nodes <= 300, place);
    }

    private int program() {
        next();
        while (is("signal output step")) {
            String kind = word;
            next();
            demand(isLetters() && !KEYWORDS.contains(word) && !names.contains(word) && names.size() < 40, place);
            String name = word;
            String unit = "";
            long[] size = new long[2];
            next();
            if (kind.equals("step")) {
                size = block();
                node();
            } else {
                if (is("l c s bar part")) {
                    unit = word;
                    next();
                }
                take(";");
            }
            names.add(name);
            kinds.add(kind);
            units.add(unit);
            sizes.add(size);
        }
        long all = 0;
        long deepest = 0;
        while (!word.isEmpty()) {
            long[] size = statement();
            all += size[0];
            deepest = Math.max(deepest, size[1]);
        }
        demand(all <= 500 && deepest <= 40, text.length());
        return statements;
    }

    /** How many statements and blocks there are, how many blocks in one another. */
    private long[] block() {
        demand(is("{") && open < 20, place);
        open++;
        next();
        long[] size = {1, 0};
        while (!is("}")) {
            join(size, statement());
        }
        next();
        open--;
        size[1]++;
        node();
        return size;
    }

    private static void join(long[] size, long[] other) {
        size[0] = Math.min(size[0] + other[0], 1000000);
        size[1] = Math.max(size[1], other[1]);
    }

    private int name(String kindsDue) {
        int name = names.indexOf(word);
        demand(name >= 0 && kindsDue.contains(kinds.get(name)), place);
        next();
        return name;
    }

    private long[] statement() {
        demand(is("set wait until ramp par if repeat limit ask do stop hold act"), place);
        statements++;
        String kind = word;
        long[] size = {1, 0};
        next();
        switch (kind) {
            case "set":
                sumOf(units.get(name("output")));
                break;
            case "wait":
                sumOf("s");
                break;
            case "until":
                test();
                break;
            case "ramp":
                sumOf(units.get(name("output")));
                take("in");
                sumOf("s");
                break;
            case "par":
                join(size, block());
                do {
                    join(size, block());
                } while (is("{"));
                break;
            case "if":
                test();
                join(size, block());
                if (is("else")) {
                    next();
                    join(size, block());
                }
                break;
            case "repeat":
                sumOf("");
                join(size, block());
                break;
            case "limit":
                test();
                join(size, block());
                take("then");
                join(size, block());
                break;
            case "ask":
                name("signal");
                break;
            case "do":
                join(size, sizes.get(name("step")));
                break;
            case "act":
                demand(word.matches("[0-9]+") && Integer.parseInt(word) <= 31, place);
                next();
                break;
            default:
        }
        if (!List.of("par", "if", "repeat", "limit").contains(kind)) {
            take(";");
        }
        node();
        return size;
    }

    private void sumOf(String unit) {
        String got = sum();
        demand(got.equals(unit), place);
    }

    private void test() {
        String left = sum();
        int where = place;
        take("< = >");
        String right = sum();
        demand(left.equals(right), where);
        node();
    }

    private String sum() {
        String unit = product();
        while (is("+ -")) {
            int where = place;
            next();
            demand(product().equals(unit), where);
            node();
        }
        return unit;
    }

    private String product() {
        String unit = factor();
        while (is("* /")) {
            int where = place;
            boolean times = is("*");
            next();
            String other = factor();
            if (times) {
                demand(unit.isEmpty() || other.isEmpty(), where);
                unit = unit + other;
            } else {
                demand(other.isEmpty() || other.equals(unit), where);
                unit = other.isEmpty() ? unit : "";
            }
            node();
        }
        return unit;
    }

    private String factor() {
        String unit = "";
        if (isNumber()) {
            long thousandths = Math.round(Double.parseDouble(word) * 1000);
            next();
            if (is("min h")) {
                demand(thousandths * (is("h") ? 3600 : 60) <= 999999999999L, place);
                unit = "s";
                next();
            } else if (UNITS.contains(word) && !word.isEmpty()) {
                unit = word;
                next();
            }
        } else if (is("( -")) {
            boolean minus = is("-");
            open++;
            demand(open <= 20, place);
            next();
            unit = minus ? factor() : sum();
            if (!minus) {
                take(")");
                open--;
                return unit;
            }
            open--;
        } else {
            unit = units.get(name("signal output"));
        }
        node();
        return unit;
    }
}
