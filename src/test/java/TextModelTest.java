import java.util.Arrays;
import java.util.List;

/** Promise 3: texts of all kinds, most of them with something wrong, against plain readers. */
public final class TextModelTest {
    private static final String BYTES = " \n09.1acblsz:?(){};+-*/<=>~\t\u0001\u007f";
    private static final String[] WORDS = {"l", "c", "s", "bar", "part", "min", "h", "in", "else", "then", "{", "}", "(", ")", ";", "+",
        "-", "*", "/", "<", "=", ">", "5", "1.5", "999999999", "3.", "1.2345", "x", "y", "g", "zz", "abcdefghijklm", "set", "stop",
        "do", "signal", ":", "and", "or", "not", "when", "for", "latched", "c3", "a4", "c16", "a32", "-", "0", "200", "201", "pump"};
    private static final String[] UNITS = {"", "", "l", "c", "s", "bar", "part"};
    private static long seed = 51511;

    private final StringBuilder text = new StringBuilder();
    private int slips;

    private static int random(int n) {
        seed = seed * 6364136223846793005L + 1442695040888963407L;
        return (int) ((seed >>> 33) % n);
    }

    private static String one(String... of) {
        return of[random(of.length)];
    }

    public static void main(String[] args) {
        Check check = new Check();
        int texts = args.length > 0 ? Integer.parseInt(args[0]) : 30000;
        int[] right = new int[3];
        int[] wrong = new int[3];
        for (int i = 0; i < texts; i++) {
            int kind = i % 5 > 2 ? 2 : i % 5;
            String text = new TextModelTest().make(kind);
            int due = TextModel.answer(kind, text);
            check.reads(new BreweryHouse(), kind, text, due);
            right[kind] += due >= 0 ? 1 : 0;
            wrong[kind] += due < -3 ? 1 : 0;
        }
        System.out.println("right ones " + Arrays.toString(right) + ", wrong ones " + Arrays.toString(wrong));
        for (int kind = 0; kind < 3; kind++) {
            check.due("many right ones of kind " + kind, right[kind] > texts / 50, true);
            check.due("many wrong ones of kind " + kind, wrong[kind] > texts / 50, true);
        }
        check.done();
    }

    private String make(int kind) {
        slips = random(3) == 0 ? 0 : 1 + random(300);
        if (kind == 0) {
            plant();
        } else if (kind == 1) {
            rows();
        } else {
            program();
        }
        if (random(3) == 0 && text.length() > 0) {
            int at = random(text.length());
            String other = "" + BYTES.charAt(random(BYTES.length()));
            text.replace(at, Math.min(text.length(), at + random(3)), random(4) == 0 ? "" : other);
        }
        if (random(9) == 0) {
            text.setLength(random(text.length() + 1));
        }
        text.setLength(Math.min(text.length(), 4000));
        return text.toString();
    }

    /** A word; in some texts now and then another one. */
    private void word(String word) {
        String it = slips > 0 && random(slips) == 0 ? one(WORDS) : word;
        if (it.isEmpty()) {
            return;
        }
        char before = text.length() == 0 ? ';' : text.charAt(text.length() - 1);
        boolean apart = Character.isLetterOrDigit(before) && Character.isLetterOrDigit(it.charAt(0));
        if (apart ? random(200) > 0 : random(6) == 0) {
            text.append(one(" ", " ", "\n", "  "));
        }
        text.append(it);
    }

    private void plant() {
        int lines = 1 + random(random(4) == 0 ? 50 : 20);
        int things = 0;
        for (int i = 0; i < lines; i++) {
            int pick = things < 2 ? random(3) : random(8);
            things += pick < 3 ? 1 : 0;
            String line = pick == 0 ? "tank " + random(random(9) == 0 ? 200000 : 1000)
                    : pick == 1 ? "pump" : pick == 2 ? "valve " + random(random(9) == 0 ? 10 : 8)
                    : "pipe " + end(things) + " " + end(things) + " " + random(random(9) == 0 ? 300 : 100);
            text.append(line).append(random(200) == 0 ? "" : "\n");
        }
    }

    private static String end(int things) {
        return random(3) == 0 ? "-" : "" + random(things + (random(9) == 0 ? 1 : 0));
    }

    private void rows() {
        int rows = random(10) == 0 ? 38 + random(5) : random(4);
        for (int i = 0; i < rows; i++) {
            word("bar");
            int first = random(32);
            int acts = 1 + random(random(9) == 0 ? 9 : 3);
            for (int k = 0; k < acts; k++) {
                rowWord("a" + (random(40) == 0 ? first : (first + k) % 32));
            }
            rowWord("when");
            or(random(5));
            if (random(3) == 0) {
                rowWord("for");
                rowWord("" + random(random(5) == 0 ? 4000 : 3601));
            }
            if (random(3) == 0) {
                rowWord("latched");
            }
            word(";");
        }
    }

    private void rowWord(String word) {
        text.append(random(300) == 0 ? "" : " ");
        word(word);
    }

    private void or(int depth) {
        int parts = 1 + random(random(8) == 0 ? 9 : 2);
        for (int i = 0; i < parts; i++) {
            if (i > 0) {
                rowWord(one("and", "or"));
            }
            int signs = random(4) == 0 ? random(random(9) == 0 ? 24 : 4) : 0;
            for (int k = 0; k < signs; k++) {
                rowWord("not");
            }
            if (depth > 0 && random(2) == 0) {
                rowWord("(");
                or(depth - 1);
                word(")");
            } else {
                rowWord("c" + random(random(60) == 0 ? 18 : 16));
            }
        }
    }

    // Names: signals p0 .., outputs o0 .. with the units of UNITS, steps g0 ..
    private int steps;

    private void program() {
        int many = random(12) == 0 ? 12 + random(4) : 2;
        for (int i = 0; i < many; i++) {
            for (String kind : List.of("signal", "output")) {
                word(kind);
                word((kind.equals("signal") ? "p" : "o") + i);
                word(UNITS[i % UNITS.length + (i > 0 ? 1 : 0) < UNITS.length ? i % UNITS.length + (i > 0 ? 1 : 0) : 0]);
                word(";");
            }
        }
        int told = random(12) == 0 ? 12 + random(29) : random(4);
        for (int i = 0; i < told; i++) {
            word("step");
            word("g" + i);
            block(told > 10 ? 0 : 2);
            steps++;
        }
        int count = random(9) == 0 ? 40 + random(60) : 1 + random(6);
        for (int i = 0; i < count; i++) {
            statement(random(60) == 0 ? 25 : random(4));
        }
    }

    private void block(int depth) {
        word("{");
        int count = depth > 8 ? 1 : random(3);
        for (int i = 0; i < count; i++) {
            statement(depth);
        }
        word("}");
    }

    private void statement(int depth) {
        if (text.length() > 4000) {
            return;
        }
        int pick = depth > 8 ? 5 + random(4) : depth > 0 ? random(13) : random(3) == 0 ? random(5) : 9 + random(4);
        int unit = random(3) == 0 ? 2 : 0;
        String output = unit == 2 ? "o1" : "o0";
        switch (pick) {
            case 0:
            case 1:
                word(pick == 0 ? "set" : "ramp");
                word(output);
                sum(UNITS[unit], 3);
                if (pick == 1) {
                    word("in");
                    sum("s", 2);
                }
                word(";");
                break;
            case 2:
                word("wait");
                sum("s", 3);
                word(";");
                break;
            case 3:
                word("until");
                test();
                word(";");
                break;
            case 4:
                word("act");
                word("" + random(random(20) == 0 ? 40 : 32));
                word(";");
                break;
            case 5:
                word("par");
                for (int i = random(2); i < 3 || random(3) == 0; i++) {
                    block(depth > 8 && i > 1 ? 0 : depth - 1);
                }
                break;
            case 6:
                word("if");
                test();
                block(depth - 1);
                if (random(2) == 0) {
                    word("else");
                    block(depth > 8 ? 0 : depth - 1);
                }
                break;
            case 7:
                word("repeat");
                sum("", 2);
                block(depth - 1);
                break;
            case 8:
                word("limit");
                test();
                block(depth > 8 ? 0 : depth - 1);
                word("then");
                block(depth - 1);
                break;
            case 9:
                word("ask");
                word(one("p0", "p1"));
                word(";");
                break;
            case 10:
            case 11:
                if (steps > 0) {
                    word("do");
                    word("g" + (steps > 10 ? steps - 1 - random(2) : random(steps)));
                    word(";");
                    break;
                }
                word("hold");
                word(";");
                break;
            default:
                word(one("stop", "hold"));
                word(";");
        }
    }

    private void test() {
        String unit = one(UNITS);
        sum(unit, 2);
        word(one("<", "=", ">"));
        sum(slips > 0 && random(slips) == 0 ? one(UNITS) : unit, 2);
    }

    private void sum(String unit, int depth) {
        product(unit, depth);
        while (depth > 0 && random(3) == 0) {
            word(one("+", "-"));
            product(slips > 0 && random(slips) == 0 ? one(UNITS) : unit, depth - 1);
        }
    }

    private void product(String unit, int depth) {
        if (depth > 0 && random(4) == 0) {
            factor("", depth - 1);
            word("*");
        }
        factor(unit, depth);
        while (depth > 0 && random(5) == 0) {
            word(one("*", "/"));
            factor(slips > 0 && random(slips) == 0 ? one(UNITS) : "", depth - 1);
        }
        if (slips > 0 && random(slips) == 0) {
            text.append(one(":", "?", ".", "1", "a", " :"));
        }
    }

    private void factor(String unit, int depth) {
        int signs = random(5) > 0 ? 0 : random(99) == 0 ? 18 + random(5) : 1;
        for (int i = 0; i < signs; i++) {
            word("-");
        }
        if (depth > 0 && random(3) == 0) {
            int deep = random(99) == 0 ? 17 + random(6) : 1;
            for (int i = 0; i < deep; i++) {
                word("(");
            }
            sum(unit, depth - 1);
            for (int i = 0; i < deep; i++) {
                word(")");
            }
        } else if (unit.isEmpty() && random(2) == 0) {
            word(one("p0", "o0"));
        } else if (unit.equals("l") && random(2) == 0) {
            word(one("p1", "o1"));
        } else {
            word(random(40) > 0 ? one("1", "2.5", "0", "60.125")
                    : one("123456789.125", "999999999", "16666666.666", "16666666.667", "277777.777", "277777.778"));
            word(unit.equals("s") ? one("s", "s", "min", "h") : unit);
        }
    }
}
