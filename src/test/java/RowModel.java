import java.util.ArrayList;
import java.util.List;
import java.util.function.IntUnaryOperator;

/** A row of interlocks in its plainest form, made at random with its text. */
final class RowModel {
    /** A part of an expression: a condition, or what joins its parts. */
    private static final class Part {
        String kind;
        int condition;
        final List<Part> parts = new ArrayList<>();

        boolean isOn(boolean[] conditions) {
            switch (kind) {
                case "not":
                    return !parts.get(0).isOn(conditions);
                case "and":
                    return parts.stream().allMatch(part -> part.isOn(conditions));
                case "or":
                    return parts.stream().anyMatch(part -> part.isOn(conditions));
                default:
                    return conditions[condition];
            }
        }
    }

    final String text;
    int count;
    boolean latched;
    int passed;
    private final List<Integer> acts = new ArrayList<>();
    private final Part all;
    private final int least;
    private final boolean latching;
    private final IntUnaryOperator dice;

    RowModel(IntUnaryOperator dice) {
        this.dice = dice;
        StringBuilder words = new StringBuilder("bar");
        int several = 1 + random(3);
        for (int i = 0; i < several; i++) {
            int act = random(32);
            if (!acts.contains(act)) {
                acts.add(act);
                words.append(" a").append(act);
            }
        }
        words.append(" when ");
        all = join(words, "or", 2);
        boolean timed = random(2) == 0;
        least = timed ? random(5) : 0;
        latching = random(3) == 0;
        words.append(timed ? " for " + least : "").append(latching ? " latched" : "").append(random(2) == 0 ? ";" : " ;\n");
        text = words.toString();
    }

    private int random(int n) {
        return dice.applyAsInt(n);
    }

    private Part join(StringBuilder words, String kind, int depth) {
        Part joined = new Part();
        joined.kind = kind;
        int several = 1 + random(3) / 2;
        for (int i = 0; i < several; i++) {
            words.append(i > 0 ? " " + kind + " " : "");
            joined.parts.add(kind.equals("or") ? join(words, "and", depth) : part(words, depth));
        }
        return joined;
    }

    private Part part(StringBuilder words, int depth) {
        int pick = depth > 0 ? random(5) : 4;
        if (pick == 0) {
            words.append("(");
            Part inside = join(words, "or", depth - 1);
            words.append(")");
            return inside;
        }
        Part part = new Part();
        if (pick == 1) {
            part.kind = "not";
            words.append("not ");
            part.parts.add(part(words, depth - 1));
        } else {
            part.kind = "condition";
            part.condition = random(4);
            words.append("c").append(part.condition);
        }
        return part;
    }

    boolean isOn(boolean[] conditions) {
        return all.isOn(conditions);
    }

    private boolean holds(boolean[] conditions) {
        return isOn(conditions) && count >= least;
    }

    boolean bars(int act, boolean[] conditions) {
        return acts.contains(act) && passed == 0 && (latched || holds(conditions));
    }

    void tick(boolean[] conditions) {
        count = isOn(conditions) ? count + 1 : 0;
        latched = latched || latching && holds(conditions);
        passed = Math.max(0, passed - 1);
    }
}
