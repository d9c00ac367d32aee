import java.util.ArrayList;
import java.util.List;
import java.util.function.IntUnaryOperator;

/** Makes right programs at random: their texts, and the trees that RunModel walks. */
final class ProgramMaker {
    private static final String[] UNITS = {"", "l", "c", "s", "bar", "part"};

    final StringBuilder text = new StringBuilder();
    final List<String> names = new ArrayList<>();
    // 0 signals, 1 outputs, 2 steps.
    final List<Integer> kinds = new ArrayList<>();
    final List<RunModel.Node> main = new ArrayList<>();
    int statements;
    // Name 0 is a signal that many tests divide by.
    final boolean faulty;
    private final IntUnaryOperator dice;
    private final List<Integer> units = new ArrayList<>();
    private final List<RunModel.Node> steps = new ArrayList<>();
    private int nodes;
    private int deepest;
    private boolean tight;

    ProgramMaker(IntUnaryOperator dice, boolean faulty) {
        this.dice = dice;
        this.faulty = faulty;
        tight = random(2) == 0;
        declare();
        int count = 1 + random(6);
        for (int i = 0; i < count; i++) {
            main.add(faulty && i == 0 ? sides() : statement(0));
        }
    }

    private int random(int n) {
        return dice.applyAsInt(n);
    }

    /** Whether it is within the limits of texts and nodes. */
    boolean fits() {
        return nodes <= 300 && text.length() <= 4000 && deepest <= 15;
    }

    /** What end(2) is due to answer. */
    int answer() {
        int all = 0;
        int most = 0;
        for (RunModel.Node n : main) {
            all += size(n);
            most = Math.max(most, depth(n));
        }
        return all > 500 || most > 40 ? -3 - text.length() : statements;
    }

    boolean isSignal(int name) {
        return name >= 0 && name < names.size() && kinds.get(name) == 0;
    }

    // Words: blanks where they are needed, and now and then where they are not.
    private void word(String word) {
        char c = text.length() == 0 ? ';' : text.charAt(text.length() - 1);
        boolean letters = Character.isLetterOrDigit(c) && Character.isLetterOrDigit(word.charAt(0));
        if (letters || random(tight ? 20 : 3) == 0) {
            text.append(random(5) == 0 ? "\n" : random(9) == 0 ? "  " : " ");
        }
        text.append(word);
    }

    private RunModel.Node number(RunModel.Node n) {
        n.number = nodes;
        nodes++;
        return n;
    }

    private RunModel.Node sum(int unit, int depth) {
        if (depth > 0 && random(3) == 0) {
            RunModel.Node n = new RunModel.Node(random(2) == 0 ? "+" : "-");
            n.sums.add(product(unit, depth - 1));
            word(n.kind);
            n.sums.add(product(unit, depth - 1));
            return number(n);
        }
        return product(unit, depth);
    }

    private RunModel.Node product(int unit, int depth) {
        if (depth > 0 && random(4) == 0) {
            boolean times = random(2) == 0;
            RunModel.Node n = new RunModel.Node(times ? "*" : "/");
            boolean before = random(2) == 0;
            if (times) {
                n.sums.add(factor(before ? unit : 0, depth - 1));
                word(n.kind);
                n.sums.add(factor(before ? 0 : unit, depth - 1));
            } else {
                int other = unit == 0 && before ? random(6) : 0;
                n.sums.add(factor(unit == 0 ? other : unit, depth - 1));
                word(n.kind);
                n.sums.add(factor(other, depth - 1));
            }
            return number(n);
        }
        return factor(unit, depth);
    }

    private RunModel.Node factor(int unit, int depth) {
        int pick = random(8);
        if (depth > 0 && pick == 0) {
            word("(");
            RunModel.Node n = sum(unit, depth - 1);
            word(")");
            return n;
        }
        if (depth > 0 && pick == 1) {
            RunModel.Node n = new RunModel.Node("neg");
            word("-");
            n.sums.add(factor(unit, depth - 1));
            return number(n);
        }
        for (int i = 0; pick < 5 && i < 6 && !names.isEmpty(); i++) {
            int name = random(names.size());
            if (kinds.get(name) < 2 && units.get(name) == unit) {
                RunModel.Node n = new RunModel.Node("name");
                n.name = name;
                word(names.get(name));
                return number(n);
            }
        }
        return literal(unit);
    }

    private RunModel.Node literal(int unit) {
        RunModel.Node n = new RunModel.Node("number");
        int whole = random(12) == 0 ? random(3000) : random(5);
        int point = random(4) == 0 ? random(1000) : -1;
        n.value = whole * 1000L;
        String digits = (random(9) == 0 ? "00" : "") + whole;
        if (point >= 0) {
            digits += "." + (point % 10 != 0 ? String.format("%03d", point) : point % 100 != 0 ? String.format("%02d", point / 10) : "" + point / 100);
            n.value += point;
        }
        word(digits);
        if (unit == 3 && random(9) == 0) {
            boolean hour = random(3) == 0;
            n.value *= hour ? 3600 : 60;
            word(hour ? "h" : "min");
        } else if (unit > 0) {
            word(UNITS[unit]);
        }
        return number(n);
    }

    private RunModel.Node test(int depth) {
        if (faulty && random(3) > 0) {
            return quotient();
        }
        int unit = random(6);
        RunModel.Node n = new RunModel.Node(new String[] {"<", "=", ">"}[random(3)]);
        n.sums.add(sum(unit, depth));
        word(n.kind);
        n.sums.add(sum(unit, depth));
        return number(n);
    }

    private RunModel.Node quotient() {
        RunModel.Node divided = new RunModel.Node("/");
        divided.sums.add(literal(0));
        word("/");
        RunModel.Node by = new RunModel.Node("name");
        word(names.get(0));
        divided.sums.add(number(by));
        number(divided);
        RunModel.Node n = new RunModel.Node(random(4) == 0 ? "<" : ">");
        n.sums.add(divided);
        word(n.kind);
        n.sums.add(literal(0));
        return number(n);
    }

    private RunModel.Node block(int depth) {
        RunModel.Node n = new RunModel.Node("block");
        word("{");
        int count = random(4);
        for (int i = 0; i < count; i++) {
            n.blocks.add(statement(depth + 1));
        }
        word("}");
        return number(n);
    }

    private int nameOf(int kind) {
        for (int i = 0; i < 20 && !names.isEmpty(); i++) {
            int name = random(names.size());
            if (kinds.get(name) == kind) {
                return name;
            }
        }
        return -1;
    }

    private RunModel.Node statement(int depth) {
        deepest = Math.max(deepest, depth);
        statements++;
        int pick = random(depth > 5 ? 11 : 18);
        int output = nameOf(1);
        if (pick < 4 && output >= 0) {
            return pick < 3 ? change("set", output) : change("ramp", output);
        }
        if (pick == 4 && nameOf(0) >= 0) {
            RunModel.Node n = new RunModel.Node("ask");
            n.name = nameOf(0);
            while (n.name < 0) {
                n.name = nameOf(0);
            }
            word("ask");
            word(names.get(n.name));
            return finish(n);
        }
        if (pick < 8) {
            RunModel.Node n = new RunModel.Node(pick == 5 ? "until" : "wait");
            word(n.kind);
            n.sums.add(pick == 5 ? test(1) : sum(3, 1));
            return finish(n);
        }
        if (pick < 11) {
            boolean rare = random(8) == 0;
            RunModel.Node n = new RunModel.Node(!rare ? "act" : random(3) > 0 ? "hold" : "stop");
            word(n.kind);
            if (!rare) {
                n.act = random(32);
                word("" + n.act);
            }
            return finish(n);
        }
        return compound(pick, depth);
    }

    private RunModel.Node change(String kind, int output) {
        RunModel.Node n = new RunModel.Node(kind);
        n.name = output;
        word(kind);
        word(names.get(output));
        n.sums.add(sum(units.get(output), 3));
        if (kind.equals("ramp")) {
            word("in");
            n.sums.add(sum(3, 1));
        }
        return finish(n);
    }

    private RunModel.Node finish(RunModel.Node n) {
        word(";");
        return number(n);
    }

    private RunModel.Node sides() {
        statements++;
        return compound(random(2) == 0 ? 13 : 17, 0);
    }

    private RunModel.Node compound(int pick, int depth) {
        int step = nameOf(2);
        if (pick < 13 && step >= 0) {
            RunModel.Node n = new RunModel.Node("do");
            word("do");
            word(names.get(step));
            n.blocks.add(steps.get(step));
            return finish(n);
        }
        RunModel.Node n = new RunModel.Node(pick < 14 ? "par" : pick == 14 ? "if" : pick == 15 ? "repeat" : "limit");
        word(n.kind);
        if (n.kind.equals("repeat")) {
            n.sums.add(sum(0, 1));
        } else if (!n.kind.equals("par")) {
            n.sums.add(test(1));
        }
        n.blocks.add(block(depth));
        if (n.kind.equals("limit")) {
            word("then");
            n.blocks.add(block(depth));
        } else if (n.kind.equals("if") && random(2) == 0) {
            word("else");
            n.blocks.add(block(depth));
        } else if (n.kind.equals("par")) {
            int more = 1 + random(2);
            for (int i = 0; i < more; i++) {
                n.blocks.add(block(depth));
            }
        }
        return number(n);
    }

    private void declare() {
        int count = faulty ? 2 + random(4) : random(7);
        for (int i = 0; i < count; i++) {
            int kind = faulty && i < 2 ? i : random(3);
            String name = (random(2) == 0 ? "name" : "x") + i;
            RunModel.Node block = null;
            word(kind == 0 ? "signal" : kind == 1 ? "output" : "step");
            word(name);
            int unit = faulty && i == 0 || random(2) == 0 ? 0 : random(6);
            if (kind == 2) {
                block = block(1);
                nodes++;
            } else {
                if (unit > 0) {
                    word(UNITS[unit]);
                }
                word(";");
            }
            names.add(name);
            kinds.add(kind);
            units.add(unit);
            steps.add(block);
        }
    }

    // How many statements and blocks there are, each step as often as it is done.
    private static int size(RunModel.Node n) {
        int all = 1;
        for (RunModel.Node block : n.blocks) {
            all += size(block);
        }
        return all;
    }

    private static int depth(RunModel.Node n) {
        int most = 0;
        for (RunModel.Node block : n.blocks) {
            most = Math.max(most, depth(block));
        }
        return most + (n.kind.equals("block") ? 1 : 0);
    }
}
